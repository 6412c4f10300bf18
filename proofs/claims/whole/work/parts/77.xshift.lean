/-! ===== the class: shifts ===== -/
theorem sd_val {x y k : Nat} (hk : k < 15) (hx : x < 32768) (hy : y < 32768) : bAnd (bOr ((x / 2 ^ k : Nat) : Int) ((y * 2 ^ (15 - k) : Nat) : Int)) 32767 = (((x + y * 32768) / 2 ^ k % 32768 : Nat) : Int) := by
  have hp : 0 < 2 ^ k := Nat.pow_pos (by decide)
  have e1 : (32768 : Nat) = 2 ^ (15 - k) * 2 ^ k := by rw [← Nat.pow_add, show 15 - k + k = 15 by omega]
  have h1 : x / 2 ^ k < 2 ^ (15 - k) := by
    rw [Nat.div_lt_iff_lt_mul hp, ← e1]
    exact hx
  have h2 : y * 2 ^ (15 - k) ≤ 32767 * 32768 := by
    refine Nat.mul_le_mul (by omega) ?_
    have : 2 ^ (15 - k) ≤ 2 ^ 15 := Nat.pow_le_pow_right (by decide) (by omega)
    exact this
  have h3 : 2 ^ (15 - k) ≤ 2 ^ 15 := Nat.pow_le_pow_right (by decide) (by omega)
  have e2 : (x + y * 32768) / 2 ^ k = x / 2 ^ k + y * 2 ^ (15 - k) := by
    have : y * 32768 = 2 ^ k * (y * 2 ^ (15 - k)) := by
      generalize hq : (32768 : Nat) = q at *
      rw [e1]
      grind
    rw [this, Nat.add_mul_div_left _ _ hp]
  have e3 : bOr ((x / 2 ^ k : Nat) : Int) ((y * 2 ^ (15 - k) : Nat) : Int) = ((y * 2 ^ (15 - k) + x / 2 ^ k : Nat) : Int) := by
    rw [← bOr_add y (15 - k) (x / 2 ^ k) h1 (by omega)]
    unfold bOr
    rw [Int32.or_comm]
  rw [e3, bAnd_15, e2, Nat.add_comm]
  generalize x / 2 ^ k + y * 2 ^ (15 - k) = z
  omega
def c_shiftDown : Call := ⟨Nat × Nat × Nat × Nat, 3, (fun (d, a, s, v) vs M => vs = [.inr (.inr d), .inr (.inr a), .inl (s : Int)] ∧ isRw d ∧ isRw a ∧ s ≤ 2000 ∧ XR M a v ∧ nd v ≤ 130), .inl (fun (d, _, s, v) _ M M' => XR M' d (v / 2 ^ s) ∧ FrX M M' d)⟩
theorem v_shiftDown (n : Nn) : Ver tX0_shiftDown (fdX0, icX0, lcX0, [(44, none, c_max), (50, some 5, c_limbAtR), (54, some 5, c_trim)]) 0 8 n c_shiftDown := by
  rintro ⟨d, a, s, v⟩ vs M0 ⟨rfl, hd, ha, hs, hv, hn⟩ aw run
  have hl := hd.ln n
  have h1 : M0 a 1 = (nd v : Int) := hv.1
  obtain ⟨f, k, ef, hk⟩ : ∃ f k, s = 15 * f + k ∧ k < 15 := ⟨s / 15, s % 15, by omega, by omega⟩
  obtain ⟨m, em⟩ : ∃ m : Nat, m = nd v - f := ⟨_, rfl⟩
  have hlt : v / 2 ^ s < 32768 ^ m := by
    rw [ef, Nat.pow_add, ← nn_pw, ← Nat.div_div_eq_div_mul]
    refine Nat.lt_of_le_of_lt (Nat.div_le_self _ _) ?_
    rw [Nat.div_lt_iff_lt_mul (nn_pos f), ← Nat.pow_add]
    exact Nat.lt_of_lt_of_le (nd_lt v) (Nat.pow_le_pow_right (by decide) (by omega))
  have loop : ∀ (r i : Nat) (M : Mem) (o7 : Option AV), i + r = m → M a 1 = (nd v : Int) → (∀ j, i ≤ j → j < nd v → M (a + 1) j = (dg v j : Int)) → FrX M0 M d → (∀ j, j < i → M (d + 1) j = (dg (v / 2 ^ s) j : Int)) → aw 26 [some (.inr (.inr d)), some (.inr (.inr a)), some (.inl (s : Int)), some (.inl (f : Int)), some (.inl (k : Int)), some (.inl (m : Int)), some (.inl (i : Int)), o7] [] M := by
    intro r
    induction r with
    | zero =>
      intro i M o7 hi ha1 ha2 hF hD
      obtain rfl : i = m := by omega
      refine run 60 [26] _ _ _ _ ?_
      refine And.intro ⟨⟨by omega, by omega⟩, ⟨by omega, by omega⟩⟩ (And.intro (fun _ => ?_) (fun c2 => absurd c2 (by omega)))
      refine And.intro hd.kd ⟨(d, i, v / 2 ^ s), ⟨rfl, hd, by omega, hlt, hD⟩, ?_⟩
      rintro M2 rfl
      exact Or.inl ⟨XR.fix hD hlt, hF.tr FrX.len⟩
    | succ r ih =>
      intro i M o7 hi ha1 ha2 hF hD
      have g1 := dg_lt v (f + i)
      have g2 := dg_lt v (f + i + 1)
      refine run 60 [26] _ _ _ _ ?_
      refine And.intro ⟨⟨by omega, by omega⟩, ⟨by omega, by omega⟩⟩ (And.intro (fun c1 => absurd c1 (by omega)) (fun _ => ?_))
      conv => whnf
      rw [show (i : Int) + (f : Int) + 1 = ((f + i + 1 : Nat) : Int) by omega]
      refine And.intro ha.kd ⟨(a, f + i + 1, v, 0), ⟨rfl, ha, by omega, ha1, by omega, fun h => ha2 _ (by omega) h⟩, ?_⟩
      rintro x M ⟨rfl, rfl⟩
      refine And.intro ⟨by omega, by omega⟩ (And.intro hd.kd ?_)
      conv => whnf
      rw [show (i : Int) + (f : Int) = ((f + i : Nat) : Int) by omega]
      refine And.intro ha.kd ⟨(a, f + i, v, 0), ⟨rfl, ha, by omega, ha1, by omega, fun h => ha2 _ (by omega) h⟩, ?_⟩
      rintro x M ⟨rfl, rfl⟩
      have e1 : (dg v (f + i) : Int) / 2 ^ ((k : Int)).toNat = ((dg v (f + i) / 2 ^ k : Nat) : Int) := by
        rw [Int.toNat_natCast, Int.natCast_ediv]
        simp
      have e2 : (dg v (f + i + 1) : Int) * 2 ^ (15 - (k : Int)).toNat = ((dg v (f + i + 1) * 2 ^ (15 - k) : Nat) : Int) := by
        rw [show (15 - (k : Int)).toNat = 15 - k by omega, Int.natCast_mul]
        simp
      have e3 := sd_val (x := dg v (f + i)) (y := dg v (f + i + 1)) hk g1 g2
      rw [← dg_dn v f k i hk, ← ef] at e3
      refine And.intro ⟨⟨by omega, by omega⟩, by omega, by omega⟩ (And.intro ⟨hd.ka, by omega, by omega⟩ (And.intro ?_ trivial))
      rw [e1, e2, e3, Int.toNat_natCast, show ((i : Int) + 1) = ((i + 1 : Nat) : Int) by omega]
      refine ih (i + 1) _ _ (by omega) ?_ (fun j hj1 hj2 => ?_) (hF.tr FrX.put) (fun j hj => ?_)
      · rw [up2_i (by omega)]
        exact ha1
      · by_cases c : a = d
        · subst c
          rw [up2_k (by omega)]
          exact ha2 j (by omega) hj2
        · rw [up2_i (by omega)]
          exact ha2 j (by omega) hj2
      · by_cases hj2 : j = i
        · rw [hj2, up2_s]
        · rw [up2_k hj2]
          exact hD j (by omega)
  change aw 0 [some (.inr (.inr d)), some (.inr (.inr a)), some (.inl (s : Int)), none, none, none, none, none] [] M0
  refine run 60 [26] _ _ _ _ ?_
  refine And.intro ⟨by omega, by omega, ⟨by omega, by omega⟩, ⟨by omega, by omega⟩⟩ (And.intro ⟨by omega, by omega, ⟨by omega, by omega⟩, ⟨by omega, by omega⟩⟩ (And.intro ha.kd ?_))
  conv => whnf
  rw [h1, show (s : Int) / 15 = (f : Int) by omega, show (s : Int) % 15 = (k : Int) by omega]
  refine ⟨(0, (nd v : Int) - (f : Int)), ⟨rfl, ⟨by omega, by omega⟩, ⟨by omega, by omega⟩⟩, ?_⟩
  rintro x M0 ⟨rfl, rfl⟩
  refine And.intro ?_ trivial
  rw [show max 0 ((nd v : Int) - (f : Int)) = (m : Int) by omega]
  exact loop m 0 M0 none (by omega) h1 (fun j _ hj => hv.2 j hj) (FrX.rf _ _) (fun j hj => by omega)
theorem imX0_shiftDown {l : Launch} {Z : ZT} (hZ : ZOk Z) : Impl l Z yX0_shiftDown cX0_shiftDown 8 none 2 c_shiftDown := mkImpl (rt := 0) (CL := [(44, none, c_max), (50, some 5, c_limbAtR), (54, some 5, c_trim)]) hZ.1 hZ.2.1 (by decide +kernel) kX0_shiftDown fwX0 iwX0 lwX0 trivial (Nat.le_of_ble_eq_true rfl) (List.forall_mem_cons.mpr ⟨gX0_44 hZ (by decide), List.forall_mem_cons.mpr ⟨gX0_50_R hZ (by decide), List.forall_mem_cons.mpr ⟨gX0_54 hZ (by decide), fun q h => absurd h List.not_mem_nil⟩⟩⟩) ((v_shiftDown _))
theorem gX0_92 {l : Launch} {Z : ZT} (hZ : ZOk Z) {d : Nat} (hd : 3 ≤ d) : CallI l Z RX0 d (92, none, c_shiftDown) := fun p e s m args below meth c Q cc nL x0 X => callOk_S X (imX0_shiftDown hZ) mlX0_92 sw_yX0_shiftDown nw_RX0 cw_yX0_shiftDown ⟨by decide +kernel, by decide +kernel, by decide +kernel⟩ ⟨hd, by decide⟩
theorem gX7_228 {l : Launch} {Z : ZT} (hZ : ZOk Z) {d : Nat} (hd : 3 ≤ d) : CallI l Z RX7 d (228, none, c_shiftDown) := fun p e s m args below meth c Q cc nL x0 X => callOk_S X (imX0_shiftDown hZ) mlX7_228 sw_yX0_shiftDown nw_RX0 cw_yX0_shiftDown ⟨by decide +kernel, by decide +kernel, by decide +kernel⟩ ⟨hd, by decide⟩
