/-! ===== the class: order, sum, difference ===== -/
/-- limbAt(i), of a row whose limbs above i alone are known -/
def c_limbAtR : Call := ⟨Nat × Nat × Nat × Nat, 2, (fun (r, i, v, _) vs M => vs = [.inr (.inr r), .inl (i : Int)] ∧ isRw r ∧ i < 2147483648 ∧ M r 1 = (nd v : Int) ∧ nd v ≤ 130 ∧ (i < nd v → M (r + 1) i = (dg v i : Int))), .inr (fun (_, i, v, _) _ M x M' => x = (dg v i : Int) ∧ M' = M)⟩
theorem v_limbAtR (n : Nn) : Ver tX5_limbAt (fdX5, icX5, lcX5, []) 1 2 n c_limbAtR := by
  rintro ⟨r, i, v, z⟩ vs M0 ⟨rfl, hr, hi, h1, hn, hv⟩ aw run
  have hl := hr.ln n
  change aw 0 [some (.inr (.inr r)), some (.inl (i : Int))] [] M0
  refine run 30 [] _ _ _ _ ?_
  refine And.intro ⟨⟨by omega, by omega⟩, ⟨by omega, by omega⟩⟩ (And.intro (fun c1 => absurd c1 (by omega)) (fun _ => ?_))
  refine And.intro hr.kd ?_
  refine And.intro ⟨⟨by omega, by omega⟩, ⟨by omega, by omega⟩⟩ (And.intro (fun c1 => ?_) (fun c2 => ?_))
  · refine Or.inl ⟨?_, rfl⟩
    show 0 = (dg v i : Int)
    rw [dg_z (by omega)]
    rfl
  refine And.intro hr.kd (And.intro ⟨hr.ka, by omega, by omega⟩ (Or.inl ⟨?_, rfl⟩))
  show M0 (r + 1) (i : Int).toNat = (dg v i : Int)
  rw [Int.toNat_natCast]
  exact hv (by omega)
theorem imX5_limbAt_R {l : Launch} {Z : ZT} (hZ : ZOk Z) : Impl l Z yX5_limbAt cX5_limbAt 2 (some .int) 1 c_limbAtR := mkImpl (rt := 1) (CL := []) hZ.1 hZ.2.1 (by decide +kernel) kX5_limbAt fwX5 iwX5 lwX5 trivial (Nat.le_of_ble_eq_true rfl) (fun q h => absurd h List.not_mem_nil) ((v_limbAtR _))
theorem gX0_50_R {l : Launch} {Z : ZT} (hZ : ZOk Z) {d : Nat} (hd : 2 ≤ d) : CallI l Z RX0 d (50, some 5, c_limbAtR) := fun p e s m args below meth c Q cc nL x0 X => callOk_V X (imX5_limbAt_R hZ) (by decide) rfl mlX0_50 iw_yX5_limbAt vw_yX5_limbAt nw_RX5 cw_yX5_limbAt ⟨by decide +kernel, by decide +kernel, by decide +kernel⟩ ⟨hd, by decide⟩
theorem gX5_33_R {l : Launch} {Z : ZT} (hZ : ZOk Z) {d : Nat} (hd : 2 ≤ d) : CallI l Z RX5 d (33, some 5, c_limbAtR) := fun p e s m args below meth c Q cc nL x0 X => callOk_V X (imX5_limbAt_R hZ) (by decide) rfl mlX5_33 iw_yX5_limbAt vw_yX5_limbAt nw_RX5 cw_yX5_limbAt ⟨by decide +kernel, by decide +kernel, by decide +kernel⟩ ⟨hd, by decide⟩
def c_order : Call := ⟨Nat × Nat × Nat × Nat, 2, (fun (a, b, v, w) vs M => vs = [.inr (.inr a), .inr (.inr b)] ∧ isRw a ∧ isRw b ∧ XR M a v ∧ nd v ≤ 130 ∧ XR M b w ∧ nd w ≤ 130), .inr (fun (_, _, v, w) _ M x M' => x = cm3 v w ∧ M' = M)⟩
theorem v_order (n : Nn) : Ver tX0_order (fdX0, icX0, lcX0, []) 1 3 n c_order := by
  rintro ⟨a, b, v, w⟩ vs M0 ⟨rfl, ha, hb, hv, hn, hw, hm⟩ aw run
  have hla := ha.ln n
  have hlb := hb.ln n
  have h1 : M0 a 1 = (nd v : Int) := hv.1
  have h2 : M0 b 1 = (nd w : Int) := hw.1
  have loop : ∀ k : Nat, k ≤ nd v → nd v = nd w → v / 32768 ^ k = w / 32768 ^ k → aw 35 [some (.inr (.inr a)), some (.inr (.inr b)), some (.inl ((k : Int) - 1))] [] M0 := by
    intro k
    induction k with
    | zero =>
      intro _ _ he
      have he : v = w := by simpa using he
      refine run 40 [35] _ _ _ _ ?_
      refine And.intro ⟨⟨by omega, by omega⟩, ⟨by omega, by omega⟩⟩ (And.intro (fun _ => ?_) (fun c2 => absurd c2 (by omega)))
      refine Or.inl ⟨?_, rfl⟩
      show 0 = cm3 v w
      rw [he, cm3_eq]
    | succ k ih =>
      intro hk hvw he
      rw [show (((k + 1 : Nat) : Int) - 1) = (k : Int) by omega]
      have d1 := dv_s v k
      have d2 := dv_s w k
      have q1 := dg_lt v k
      have q2 := dg_lt w k
      have l1 : M0 (a + 1) k = (dg v k : Int) := hv.2 k (by omega)
      have l2 : M0 (b + 1) k = (dg w k : Int) := hw.2 k (by omega)
      refine run 60 [35] _ _ _ _ ?_
      refine And.intro ⟨⟨by omega, by omega⟩, ⟨by omega, by omega⟩⟩ (And.intro (fun c1 => absurd c1 (by omega)) (fun _ => ?_))
      refine And.intro ha.kd (And.intro ⟨ha.ka, by omega, by omega⟩ (And.intro hb.kd (And.intro ⟨hb.ka, by omega, by omega⟩ ?_)))
      conv => whnf
      rw [Int.toNat_natCast, l1, l2]
      refine And.intro ⟨⟨by omega, by omega⟩, ⟨by omega, by omega⟩⟩ (And.intro (fun c1 => ?_) (fun c2 => ?_))
      · refine And.intro ?_ trivial
        exact ih (by omega) hvw (by omega)
      · refine And.intro ha.kd (And.intro ⟨ha.ka, by omega, by omega⟩ (And.intro hb.kd (And.intro ⟨hb.ka, by omega, by omega⟩ ?_)))
        conv => whnf
        rw [Int.toNat_natCast, l1, l2]
        refine And.intro ⟨⟨by omega, by omega⟩, ⟨by omega, by omega⟩⟩ (And.intro (fun c1 => ?_) (fun c2 => ?_))
        · exact Or.inl ⟨(cm3_gt (dv_lt (k := k) (by omega))).symm, rfl⟩
        · exact Or.inl ⟨(cm3_lt (dv_lt (k := k) (by omega))).symm, rfl⟩
  change aw 0 [some (.inr (.inr a)), some (.inr (.inr b)), none] [] M0
  refine run 60 [35] _ _ _ _ ?_
  refine And.intro ha.kd (And.intro hb.kd ?_)
  refine And.intro ⟨⟨by omega, by omega⟩, ⟨by omega, by omega⟩⟩ (And.intro (fun c1 => ?_) (fun c2 => ?_))
  · refine And.intro ha.kd (And.intro ?_ trivial)
    rw [h1]
    refine loop (nd v) (Nat.le_refl _) (by omega) ?_
    rw [dv_nd, show nd v = nd w by omega, dv_nd]
  · refine And.intro ha.kd (And.intro hb.kd ?_)
    refine And.intro ⟨⟨by omega, by omega⟩, ⟨by omega, by omega⟩⟩ (And.intro (fun c1 => ?_) (fun c2 => ?_))
    · exact Or.inl ⟨(cm3_gt (nd_ltv (by omega))).symm, rfl⟩
    · exact Or.inl ⟨(cm3_lt (nd_ltv (by omega))).symm, rfl⟩
theorem imX0_order {l : Launch} {Z : ZT} (hZ : ZOk Z) : Impl l Z yX0_order cX0_order 3 (some .int) 1 c_order := mkImpl (rt := 1) (CL := []) hZ.1 hZ.2.1 (by decide +kernel) kX0_order fwX0 iwX0 lwX0 trivial (Nat.le_of_ble_eq_true rfl) (fun q h => absurd h List.not_mem_nil) ((v_order _))
theorem gX0_67 {l : Launch} {Z : ZT} (hZ : ZOk Z) {d : Nat} (hd : 2 ≤ d) : CallI l Z RX0 d (67, none, c_order) := fun p e s m args below meth c Q cc nL x0 X => callOk_S X (imX0_order hZ) mlX0_67 sw_yX0_order nw_RX0 cw_yX0_order ⟨by decide +kernel, by decide +kernel, by decide +kernel⟩ ⟨hd, by decide⟩
theorem gX2_92 {l : Launch} {Z : ZT} (hZ : ZOk Z) {d : Nat} (hd : 2 ≤ d) : CallI l Z RX2 d (92, none, c_order) := fun p e s m args below meth c Q cc nL x0 X => callOk_S X (imX0_order hZ) mlX2_92 sw_yX0_order nw_RX0 cw_yX0_order ⟨by decide +kernel, by decide +kernel, by decide +kernel⟩ ⟨hd, by decide⟩
theorem gX7_173 {l : Launch} {Z : ZT} (hZ : ZOk Z) {d : Nat} (hd : 2 ≤ d) : CallI l Z RX7 d (173, none, c_order) := fun p e s m args below meth c Q cc nL x0 X => callOk_S X (imX0_order hZ) mlX7_173 sw_yX0_order nw_RX0 cw_yX0_order ⟨by decide +kernel, by decide +kernel, by decide +kernel⟩ ⟨hd, by decide⟩
/-- sum(d, a, b): d may be a -/
def c_sumX : Call := ⟨Nat × Nat × Nat × Nat × Nat, 3, (fun (d, a, b, v, w) vs M => vs = [.inr (.inr d), .inr (.inr a), .inr (.inr b)] ∧ isRw d ∧ isRw a ∧ isRw b ∧ b ≠ d ∧ XR M a v ∧ nd v ≤ 128 ∧ XR M b w ∧ nd w ≤ 128), .inl (fun (d, _, _, v, w) _ M M' => XR M' d (v + w) ∧ FrX M M' d)⟩
theorem v_sumX (n : Nn) : Ver tX0_sum (fdX0, icX0, lcX0, [(44, none, c_max), (50, some 5, c_limbAtR), (54, some 5, c_trim)]) 0 7 n c_sumX := by
  rintro ⟨d, a, b, v, w⟩ vs M0 ⟨rfl, hd, ha, hb, hbd, hv, hn, hw, hm⟩ aw run
  have hl := hd.ln n
  have h1 : M0 a 1 = (nd v : Int) := hv.1
  have h2 : M0 b 1 = (nd w : Int) := hw.1
  obtain ⟨N, eN⟩ : ∃ N, N = max (nd v) (nd w) := ⟨_, rfl⟩
  have loop : ∀ (k i : Nat) (M : Mem) (o6 : Option AV), i + k = N → M a 1 = (nd v : Int) → (∀ j, i ≤ j → j < nd v → M (a + 1) j = (dg v j : Int)) → XR M b w → FrX M0 M d → (∀ j, j < i → M (d + 1) j = (dg (v + w) j : Int)) → aw 18 [some (.inr (.inr d)), some (.inr (.inr a)), some (.inr (.inr b)), some (.inl (N : Int)), some (.inl (cyA v w i : Int)), some (.inl (i : Int)), o6] [] M := by
    intro k
    induction k with
    | zero =>
      intro i M o6 hi ha1 ha2 hB hF hD
      obtain rfl : i = N := by omega
      obtain ⟨t1, t2⟩ := cyA_top (a := v) (b := w) (n := i) (by omega) (by omega)
      have hD2 : ∀ j, j < i + 1 → up2 M (d + 1) i (cyA v w i : Int) (d + 1) j = (dg (v + w) j : Int) := by
        intro j hj
        by_cases hj2 : j = i
        · rw [hj2, up2_s, t1]
        · rw [up2_k hj2]
          exact hD j (by omega)
      refine run 60 [18] _ _ _ _ ?_
      refine And.intro ⟨⟨by omega, by omega⟩, ⟨by omega, by omega⟩⟩ (And.intro (fun _ => ?_) (fun c2 => absurd c2 (by omega)))
      refine And.intro hd.kd (And.intro ⟨hd.ka, by omega, by omega⟩ ?_)
      conv => whnf
      rw [Int.toNat_natCast, show (i : Int) + 1 = ((i + 1 : Nat) : Int) by omega]
      refine And.intro hd.kd ⟨(d, i + 1, v + w), ⟨rfl, hd, by omega, t2, hD2⟩, ?_⟩
      rintro M2 rfl
      exact Or.inl ⟨XR.fix hD2 t2, (hF.tr FrX.put).tr FrX.len⟩
    | succ k ih =>
      intro i M o6 hi ha1 ha2 hB hF hD
      have g1 := dg_lt v i
      have g2 := dg_lt w i
      have g3 := cyA_lt v w i
      have hB1 : M b 1 = (nd w : Int) := hB.1
      refine run 60 [18] _ _ _ _ ?_
      refine And.intro ⟨⟨by omega, by omega⟩, ⟨by omega, by omega⟩⟩ (And.intro (fun c1 => absurd c1 (by omega)) (fun _ => ?_))
      refine And.intro ha.kd ⟨(a, i, v, 0), ⟨rfl, ha, by omega, ha1, by omega, fun h => ha2 i (Nat.le_refl _) h⟩, ?_⟩
      rintro x M ⟨rfl, rfl⟩
      refine And.intro hb.kd ⟨(b, i, w, 0), ⟨rfl, hb, by omega, hB1, by omega, fun h => hB.2 i h⟩, ?_⟩
      rintro y M ⟨rfl, rfl⟩
      have e1 : bAnd ((dg v i : Int) + (dg w i : Int) + (cyA v w i : Int)) 32767 = (dg (v + w) i : Int) := by rw [bAnd_15, ← cyA_d]; omega
      have e2 : ((dg v i : Int) + (dg w i : Int) + (cyA v w i : Int)) / 2 ^ ((15 : Int)).toNat = (cyA v w (i + 1) : Int) := by
        rw [show ((2 : Int) ^ ((15 : Int)).toNat) = 32768 by decide, ← cyA_s]
        omega
      refine And.intro hd.kd (And.intro ⟨hd.ka, by omega, by omega⟩ (And.intro ⟨⟨by omega, by omega⟩, by omega, by omega⟩ (And.intro ?_ trivial)))
      rw [e1, e2, Int.toNat_natCast, show ((i : Int) + 1) = ((i + 1 : Nat) : Int) by omega]
      refine ih (i + 1) _ _ (by omega) ?_ (fun j hj1 hj2 => ?_) (FrX.put.keep hd hb hbd hB) (hF.tr FrX.put) (fun j hj => ?_)
      · rw [up2_i (by omega)]
        exact ha1
      · by_cases c : a = d
        · subst c
          rw [up2_k (by omega)]
          exact ha2 j (by omega) hj2
        · rw [up2_i (by omega)]
          exact ha2 j (by omega) hj2
      · by_cases hj2 : j = i
        · rw [hj2, up2_s]
        · rw [up2_k hj2]
          exact hD j (by omega)
  change aw 0 [some (.inr (.inr d)), some (.inr (.inr a)), some (.inr (.inr b)), none, none, none, none] [] M0
  refine run 40 [18] _ _ _ _ ?_
  refine And.intro ha.kd (And.intro hb.kd ⟨(M0 a 1, M0 b 1), ⟨rfl, ⟨by omega, by omega⟩, ⟨by omega, by omega⟩⟩, ?_⟩)
  rintro x M0 ⟨rfl, rfl⟩
  refine And.intro ?_ trivial
  rw [show max (M0 a 1) (M0 b 1) = (N : Int) by omega]
  have := loop N 0 M0 none (by omega) h1 (fun j _ hj => hv.2 j hj) hw (FrX.rf _ _) (fun j hj => by omega)
  rw [cyA_0] at this
  exact this
theorem imX0_sum {l : Launch} {Z : ZT} (hZ : ZOk Z) : Impl l Z yX0_sum cX0_sum 7 none 2 c_sumX := mkImpl (rt := 0) (CL := [(44, none, c_max), (50, some 5, c_limbAtR), (54, some 5, c_trim)]) hZ.1 hZ.2.1 (by decide +kernel) kX0_sum fwX0 iwX0 lwX0 trivial (Nat.le_of_ble_eq_true rfl) (List.forall_mem_cons.mpr ⟨gX0_44 hZ (by decide), List.forall_mem_cons.mpr ⟨gX0_50_R hZ (by decide), List.forall_mem_cons.mpr ⟨gX0_54 hZ (by decide), fun q h => absurd h List.not_mem_nil⟩⟩⟩) ((v_sumX _))
theorem gX0_114 {l : Launch} {Z : ZT} (hZ : ZOk Z) {d : Nat} (hd : 3 ≤ d) : CallI l Z RX0 d (114, none, c_sumX) := fun p e s m args below meth c Q cc nL x0 X => callOk_S X (imX0_sum hZ) mlX0_114 sw_yX0_sum nw_RX0 cw_yX0_sum ⟨by decide +kernel, by decide +kernel, by decide +kernel⟩ ⟨hd, by decide⟩
theorem gX2_119 {l : Launch} {Z : ZT} (hZ : ZOk Z) {d : Nat} (hd : 3 ≤ d) : CallI l Z RX2 d (119, none, c_sumX) := fun p e s m args below meth c Q cc nL x0 X => callOk_S X (imX0_sum hZ) mlX2_119 sw_yX0_sum nw_RX0 cw_yX0_sum ⟨by decide +kernel, by decide +kernel, by decide +kernel⟩ ⟨hd, by decide⟩
theorem gX7_165 {l : Launch} {Z : ZT} (hZ : ZOk Z) {d : Nat} (hd : 3 ≤ d) : CallI l Z RX7 d (165, none, c_sumX) := fun p e s m args below meth c Q cc nL x0 X => callOk_S X (imX0_sum hZ) mlX7_165 sw_yX0_sum nw_RX0 cw_yX0_sum ⟨by decide +kernel, by decide +kernel, by decide +kernel⟩ ⟨hd, by decide⟩
def c_differenceX : Call := ⟨Nat × Nat × Nat × Nat × Nat, 3, (fun (d, a, b, v, w) vs M => vs = [.inr (.inr d), .inr (.inr a), .inr (.inr b)] ∧ isRw d ∧ isRw a ∧ isRw b ∧ a ≠ d ∧ b ≠ d ∧ XR M a v ∧ nd v ≤ 130 ∧ XR M b w ∧ w ≤ v), .inl (fun (d, _, _, v, w) _ M M' => XR M' d (v - w) ∧ FrX M M' d)⟩
theorem v_differenceX (n : Nn) : Ver tX0_difference (fdX0, icX0, lcX0, [(50, some 5, c_limbAtR), (54, some 5, c_trim)]) 0 7 n c_differenceX := by
  rintro ⟨d, a, b, v, w⟩ vs M0 ⟨rfl, hd, ha, hb, had, hbd, hv, hn, hw, hwv⟩ aw run
  have hl := hd.ln n
  have hla := ha.ln n
  have h1 : M0 a 1 = (nd v : Int) := hv.1
  have hm := nd_mono hwv
  have loop : ∀ (k i : Nat) (M : Mem) (o6 : Option AV), i + k = nd v → XR M a v → XR M b w → FrX M0 M d → (∀ j, j < i → M (d + 1) j = (dg (v - w) j : Int)) → aw 11 [some (.inr (.inr d)), some (.inr (.inr a)), some (.inr (.inr b)), some (.inl (nd v : Int)), some (.inl (bwA v w i : Int)), some (.inl (i : Int)), o6] [] M := by
    intro k
    induction k with
    | zero =>
      intro i M o6 hi hA hB hF hD
      obtain rfl : i = nd v := by omega
      have t2 : v - w < 32768 ^ nd v := Nat.lt_of_le_of_lt (Nat.sub_le _ _) (nd_lt v)
      refine run 60 [11] _ _ _ _ ?_
      refine And.intro ⟨⟨by omega, by omega⟩, ⟨by omega, by omega⟩⟩ (And.intro (fun _ => ?_) (fun c2 => absurd c2 (by omega)))
      refine And.intro hd.kd ⟨(d, nd v, v - w), ⟨rfl, hd, hn, t2, hD⟩, ?_⟩
      rintro M2 rfl
      exact Or.inl ⟨XR.fix hD t2, hF.tr FrX.len⟩
    | succ k ih =>
      intro i M o6 hi hA hB hF hD
      have g1 := dg_lt v i
      have g2 := dg_lt w i
      have g3 := bwA_lt v w i
      have s1 := bwA_s v w i
      have s2 := bwA_d hwv i
      have hB1 : M b 1 = (nd w : Int) := hB.1
      have lA : M (a + 1) i = (dg v i : Int) := hA.2 i (by omega)
      have fin : ∀ (x : Int) (o6 : Option AV), x = (dg (v - w) i : Int) → aw 11 [some (.inr (.inr d)), some (.inr (.inr a)), some (.inr (.inr b)), some (.inl (nd v : Int)), some (.inl (bwA v w (i + 1) : Int)), some (.inl ((i : Int) + 1)), o6] [] (up2 M (d + 1) i x) := by
        intro x o6 hx
        rw [hx, show ((i : Int) + 1) = ((i + 1 : Nat) : Int) by omega]
        refine ih (i + 1) _ _ (by omega) (FrX.put.keep hd ha had hA) (FrX.put.keep hd hb hbd hB) (hF.tr FrX.put) (fun j hj => ?_)
        by_cases hj2 : j = i
        · rw [hj2, up2_s]
        · rw [up2_k hj2]
          exact hD j (by omega)
      refine run 60 [11] _ _ _ _ ?_
      refine And.intro ⟨⟨by omega, by omega⟩, ⟨by omega, by omega⟩⟩ (And.intro (fun c1 => absurd c1 (by omega)) (fun _ => ?_))
      refine And.intro ha.kd (And.intro ⟨ha.ka, by omega, by omega⟩ ?_)
      conv => whnf
      rw [Int.toNat_natCast, lA]
      refine And.intro hb.kd ⟨(b, i, w, 0), ⟨rfl, hb, by omega, hB1, by omega, fun h => hB.2 i h⟩, ?_⟩
      rintro y M ⟨rfl, rfl⟩
      have e1 : bAnd ((dg v i : Int) - (dg w i : Int) - (bwA v w i : Int)) 32767 = (dg (v - w) i : Int) := by
        have g4 := dg_lt (v - w) i
        rw [bAnd_15]
        by_cases c : (dg v i : Int) - (dg w i : Int) - (bwA v w i : Int) < 0
        · have := s2.1 c
          omega
        · have := s2.2 (by omega)
          omega
      refine And.intro hd.kd (And.intro ⟨hd.ka, by omega, by omega⟩ ?_)
      conv => whnf
      rw [Int.toNat_natCast, e1]
      refine And.intro ⟨⟨by omega, by omega⟩, ⟨by omega, by omega⟩⟩ (And.intro (fun c1 => ?_) (fun c2 => ?_))
      · refine And.intro ?_ trivial
        have := fin _ (some (.inl ((dg v i : Int) - (dg w i : Int) - (bwA v w i : Int)))) rfl
        rw [s1.2 (by omega)] at this
        exact this
      · refine And.intro ?_ trivial
        have := fin _ (some (.inl ((dg v i : Int) - (dg w i : Int) - (bwA v w i : Int)))) rfl
        rw [s1.1 (by omega)] at this
        exact this
  change aw 0 [some (.inr (.inr d)), some (.inr (.inr a)), some (.inr (.inr b)), none, none, none, none] [] M0
  refine run 40 [11] _ _ _ _ ?_
  refine And.intro ha.kd (And.intro ?_ trivial)
  rw [h1]
  have := loop (nd v) 0 M0 none (by omega) hv hw (FrX.rf _ _) (fun j hj => by omega)
  rw [bwA_0] at this
  exact this
theorem imX0_difference {l : Launch} {Z : ZT} (hZ : ZOk Z) : Impl l Z yX0_difference cX0_difference 7 none 2 c_differenceX := mkImpl (rt := 0) (CL := [(50, some 5, c_limbAtR), (54, some 5, c_trim)]) hZ.1 hZ.2.1 (by decide +kernel) kX0_difference fwX0 iwX0 lwX0 trivial (Nat.le_of_ble_eq_true rfl) (List.forall_mem_cons.mpr ⟨gX0_50_R hZ (by decide), List.forall_mem_cons.mpr ⟨gX0_54 hZ (by decide), fun q h => absurd h List.not_mem_nil⟩⟩) ((v_differenceX _))
theorem gX2_126 {l : Launch} {Z : ZT} (hZ : ZOk Z) {d : Nat} (hd : 3 ≤ d) : CallI l Z RX2 d (126, none, c_differenceX) := fun p e s m args below meth c Q cc nL x0 X => callOk_S X (imX0_difference hZ) mlX2_126 sw_yX0_difference nw_RX0 cw_yX0_difference ⟨by decide +kernel, by decide +kernel, by decide +kernel⟩ ⟨hd, by decide⟩
theorem gX7_177 {l : Launch} {Z : ZT} (hZ : ZOk Z) {d : Nat} (hd : 3 ≤ d) : CallI l Z RX7 d (177, none, c_differenceX) := fun p e s m args below meth c Q cc nL x0 X => callOk_S X (imX0_difference hZ) mlX7_177 sw_yX0_difference nw_RX0 cw_yX0_difference ⟨by decide +kernel, by decide +kernel, by decide +kernel⟩ ⟨hd, by decide⟩
