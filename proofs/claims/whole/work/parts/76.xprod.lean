/-! ===== the class: product ===== -/
def c_productX : Call := ⟨Nat × Nat × Nat × Nat × Nat, 3, (fun (d, a, b, v, w) vs M => vs = [.inr (.inr d), .inr (.inr a), .inr (.inr b)] ∧ isRw d ∧ isRw a ∧ isRw b ∧ a ≠ d ∧ b ≠ d ∧ XR M a v ∧ XR M b w ∧ nd v + nd w ≤ 130), .inl (fun (d, _, _, v, w) _ M M' => XR M' d (v * w) ∧ FrX M M' d)⟩
theorem v_productX (n : Nn) : Ver tX0_product (fdX0, icX0, lcX0, [(58, none, c_min), (44, none, c_max), (54, some 5, c_trim)]) 0 11 n c_productX := by
  rintro ⟨d, a, b, v, w⟩ vs M0 ⟨rfl, hd, ha, hb, had, hbd, hv, hw, hn⟩ aw run
  have hl := hd.ln n
  have hla := ha.ln n
  have hlb := hb.ln n
  have loop : ∀ (r k : Nat) (M : Mem) (o9 o10 : Option AV), k + r = nd v + nd w → XR M a v → XR M b w → FrX M0 M d → (∀ j, j < k → M (d + 1) j = (dg (v * w) j : Int)) → aw 28 [some (.inr (.inr d)), some (.inr (.inr a)), some (.inr (.inr b)), some (.inr (.inr (a + 1))), some (.inr (.inr (b + 1))), some (.inl ((nd v : Int) + (nd w : Int))), some (.inr (.inl (cyP v w k : Int))), none, some (.inl (k : Int)), o9, o10] [] M := by
    intro r
    induction r with
    | zero =>
      intro k M o9 o10 hk hA hB hF hD
      obtain rfl : k = nd v + nd w := by omega
      refine run 60 [28] _ _ _ _ ?_
      refine And.intro ⟨⟨by omega, by omega⟩, ⟨by omega, by omega⟩⟩ (And.intro (fun _ => ?_) (fun c2 => absurd c2 (by omega)))
      refine And.intro hd.kd ⟨(d, nd v + nd w, v * w), ⟨rfl, hd, hn, nd_mul v w, hD⟩, ?_⟩
      rintro M2 rfl
      exact Or.inl ⟨XR.fix hD (nd_mul v w), hF.tr FrX.len⟩
    | succ r ih =>
      intro k M o9 o10 hk hA hB hF hD
      have hA1 : M a 1 = (nd v : Int) := hA.1
      have hB1 : M b 1 = (nd w : Int) := hB.1
      have hcy := cyP_le v w k (by omega)
      have fin : ∀ (i9 i10 : Int), aw 95 [some (.inr (.inr d)), some (.inr (.inr a)), some (.inr (.inr b)), some (.inr (.inr (a + 1))), some (.inr (.inr (b + 1))), some (.inl ((nd v : Int) + (nd w : Int))), some (.inr (.inl ((cyP v w k + cs v w k (k + 1) : Nat) : Int))), none, some (.inl (k : Int)), some (.inl i9), some (.inl i10)] [] M := by
        intro i9 i10
        have hcs := cs_le v w k (k + 1)
        have e1 := cyP_d v w k
        have e2 := cyP_s v w k
        have hY : cyP v w k + cs v w k (k + 1) < 9223372036854775807 := by omega
        generalize cyP v w k + cs v w k (k + 1) = Y at *
        refine run 60 [28] _ _ _ _ ?_
        refine And.intro hd.kd ?_
        refine And.intro ⟨hd.ka, by omega, by omega⟩ (And.intro ⟨⟨by omega, by omega⟩, by omega, by omega⟩ (And.intro ?_ trivial))
        have e3 : bAnd (Y : Int) 32767 = (dg (v * w) k : Int) := by rw [bAnd_15]; omega
        have e4 : (Y : Int) / 2 ^ ((15 : Int)).toNat = (cyP v w (k + 1) : Int) := by
          rw [show ((2 : Int) ^ ((15 : Int)).toNat) = 32768 by decide]
          omega
        rw [e3, e4, Int.toNat_natCast, show ((k : Int) + 1) = ((k + 1 : Nat) : Int) by omega]
        refine ih (k + 1) _ _ _ (by omega) (FrX.put.keep hd ha had hA) (FrX.put.keep hd hb hbd hB) (hF.tr FrX.put) (fun j hj => ?_)
        by_cases hj2 : j = k
        · rw [hj2, up2_s]
        · rw [up2_k hj2]
          exact hD j (by omega)
      have inner : ∀ (q i : Nat), i + q = k + 1 → k + 1 ≤ i + nd w → aw 63 [some (.inr (.inr d)), some (.inr (.inr a)), some (.inr (.inr b)), some (.inr (.inr (a + 1))), some (.inr (.inr (b + 1))), some (.inl ((nd v : Int) + (nd w : Int))), some (.inr (.inl ((cyP v w k + cs v w k i : Nat) : Int))), none, some (.inl (k : Int)), some (.inl (min (k : Int) ((nd v : Int) - 1))), some (.inl (i : Int))] [] M := by
        intro q
        induction q with
        | zero =>
          intro i hq hlo
          obtain rfl : i = k + 1 := by omega
          refine run 60 [63, 95] _ _ _ _ ?_
          refine And.intro ⟨⟨by omega, by omega⟩, ⟨by omega, by omega⟩⟩ (And.intro (fun _ => ?_) (fun c2 => absurd c2 (by omega)))
          exact And.intro (fin _ _) trivial
        | succ q ihq =>
          intro i hq hlo
          by_cases ci : nd v ≤ i
          · have e : cs v w k i = cs v w k (k + 1) := by
              have := cs_up (a := v) (b := w) (k := k) (m := i) (by omega) (k + 1 - i)
              rw [← this]
              congr 1
              omega
            rw [e]
            refine run 60 [63, 95] _ _ _ _ ?_
            refine And.intro ⟨⟨by omega, by omega⟩, ⟨by omega, by omega⟩⟩ (And.intro (fun _ => ?_) (fun c2 => absurd c2 (by omega)))
            exact And.intro (fin _ _) trivial
          have c1 := cs_le v w k i
          have g1 := dg_lt v i
          have g2 := dg_lt w (k - i)
          have l1 : M (a + 1) i = (dg v i : Int) := hA.2 i (by omega)
          have l2 : M (b + 1) (k - i) = (dg w (k - i) : Int) := hB.2 (k - i) (by omega)
          have hm : dg v i * dg w (k - i) ≤ 32767 * 32767 := Nat.mul_le_mul (by omega) (by omega)
          have e3 : ((cyP v w k + cs v w k i : Nat) : Int) + (dg v i : Int) * (dg w (k - i) : Int) = ((cyP v w k + (cs v w k i + dg v i * dg w (k - i)) : Nat) : Int) := by
            rw [Int.natCast_add, Int.natCast_add, Int.natCast_add, Int.natCast_mul]
            omega
          have e5 : (dg v i : Int) * (dg w (k - i) : Int) = ((dg v i * dg w (k - i) : Nat) : Int) := by rw [Int.natCast_mul]
          refine run 60 [63, 95] _ _ _ _ ?_
          refine And.intro ⟨⟨by omega, by omega⟩, ⟨by omega, by omega⟩⟩ (And.intro (fun c1 => absurd c1 (by omega)) (fun _ => ?_))
          refine And.intro ⟨ha.ka, by omega, by omega⟩ (And.intro ⟨hb.ka, by omega, by omega⟩ ?_)
          conv => whnf
          rw [Int.toNat_natCast, l1, show ((k : Int) - (i : Int)).toNat = k - i by omega, l2]
          refine And.intro ⟨by rw [e5]; omega, by rw [e5]; omega⟩ (And.intro ?_ trivial)
          have := ihq (i + 1) (by omega) (by omega)
          rw [cs] at this
          rw [e3, show ((i : Int) + 1) = ((i + 1 : Nat) : Int) by omega]
          exact this
      refine run 60 [28, 63] _ _ _ _ ?_
      refine And.intro ⟨⟨by omega, by omega⟩, ⟨by omega, by omega⟩⟩ (And.intro (fun c1 => absurd c1 (by omega)) (fun _ => ?_))
      refine And.intro ha.kd ?_
      conv => whnf
      rw [hA1]
      refine ⟨((k : Int), (nd v : Int) - 1), ⟨rfl, ⟨by omega, by omega⟩, ⟨by omega, by omega⟩⟩, ?_⟩
      rintro x M ⟨rfl, rfl⟩
      refine And.intro hb.kd ?_
      conv => whnf
      rw [hB1]
      refine ⟨(0, (k : Int) - (nd w : Int) + 1), ⟨rfl, ⟨by omega, by omega⟩, ⟨by omega, by omega⟩⟩, ?_⟩
      rintro x M ⟨rfl, rfl⟩
      refine And.intro ?_ trivial
      have e := cs_low (a := v) (b := w) (k := k) (m := k + 1 - nd w) (fun j hj => dg_z (by omega))
      have := inner (k + 1 - (k + 1 - nd w)) (k + 1 - nd w) (by omega) (by omega)
      rw [e, Nat.add_zero, show ((k + 1 - nd w : Nat) : Int) = max 0 ((k : Int) - (nd w : Int) + 1) by omega] at this
      exact this
  change aw 0 [some (.inr (.inr d)), some (.inr (.inr a)), some (.inr (.inr b)), none, none, none, none, none, none, none, none] [] M0
  have h1 : M0 a 1 = (nd v : Int) := hv.1
  have h2 : M0 b 1 = (nd w : Int) := hw.1
  refine run 40 [28] _ _ _ _ ?_
  refine And.intro ha.kd (And.intro hb.kd (And.intro ha.kd (And.intro hb.kd (And.intro ?_ trivial))))
  rw [h1, h2]
  have := loop (nd v + nd w) 0 M0 none none (by omega) hv hw (FrX.rf _ _) (fun j hj => by omega)
  rw [cyP_0] at this
  exact this
theorem imX0_product {l : Launch} {Z : ZT} (hZ : ZOk Z) : Impl l Z yX0_product cX0_product 11 none 2 c_productX := mkImpl (rt := 0) (CL := [(58, none, c_min), (44, none, c_max), (54, some 5, c_trim)]) hZ.1 hZ.2.1 (by decide +kernel) kX0_product fwX0 iwX0 lwX0 trivial (Nat.le_of_ble_eq_true rfl) (List.forall_mem_cons.mpr ⟨gX0_58 hZ (by decide), List.forall_mem_cons.mpr ⟨gX0_44 hZ (by decide), List.forall_mem_cons.mpr ⟨gX0_54 hZ (by decide), fun q h => absurd h List.not_mem_nil⟩⟩⟩) ((v_productX _))
theorem gX0_110 {l : Launch} {Z : ZT} (hZ : ZOk Z) {d : Nat} (hd : 3 ≤ d) : CallI l Z RX0 d (110, none, c_productX) := fun p e s m args below meth c Q cc nL x0 X => callOk_S X (imX0_product hZ) mlX0_110 sw_yX0_product nw_RX0 cw_yX0_product ⟨by decide +kernel, by decide +kernel, by decide +kernel⟩ ⟨hd, by decide⟩
theorem gX2_123 {l : Launch} {Z : ZT} (hZ : ZOk Z) {d : Nat} (hd : 3 ≤ d) : CallI l Z RX2 d (123, none, c_productX) := fun p e s m args below meth c Q cc nL x0 X => callOk_S X (imX0_product hZ) mlX2_123 sw_yX0_product nw_RX0 cw_yX0_product ⟨by decide +kernel, by decide +kernel, by decide +kernel⟩ ⟨hd, by decide⟩
theorem gX7_183 {l : Launch} {Z : ZT} (hZ : ZOk Z) {d : Nat} (hd : 3 ≤ d) : CallI l Z RX7 d (183, none, c_productX) := fun p e s m args below meth c Q cc nL x0 X => callOk_S X (imX0_product hZ) mlX7_183 sw_yX0_product nw_RX0 cw_yX0_product ⟨by decide +kernel, by decide +kernel, by decide +kernel⟩ ⟨hd, by decide⟩
