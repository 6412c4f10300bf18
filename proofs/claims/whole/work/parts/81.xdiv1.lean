/-! ===== the class: division ===== -/
def FrW (M M' : Mem) (j k : Nat) : Prop := (∀ o, o ≠ 14 → M' o = M o) ∧ ∀ i, (i < j ∨ j + k ≤ i) → M' 14 i = M 14 i
theorem dg_addhi {U e n i : Nat} (h : i < n) : dg (U + e * 32768 ^ n) i = dg U i := by
  rw [← dg_md h, Nat.add_mul_mod_self_right, dg_md h]
/-- subtractMultiple(g, j): y is left there, and e is owed above -/
def c_subM : Call := ⟨Nat × Nat × Nat × Nat × Nat × Nat, 3, (fun (j, U, W, g, y, e) vs M => vs = [.inr (.inr 6), .inl (g : Int), .inl (j : Int)] ∧ XR M 15 W ∧ j + nd W ≤ 129 ∧ g ≤ 32768 ∧ U < 32768 ^ (nd W + 1) ∧ y < 32768 ^ nd W ∧ y + g * W = U + e * 32768 ^ nd W ∧ e ≤ 1 ∧ (∀ i, i ≤ nd W → M 14 (j + i) = (dg U i : Int))), .inr (fun (j, _, W, _, y, e) _ M x M' => x = (e : Int) ∧ (∀ i, i < nd W → M' 14 (j + i) = (dg y i : Int)) ∧ FrW M M' j (nd W))⟩
theorem v_subM (n : Nn) : Ver tX0_subtractMultiple (fdX0, icX0, lcX0, []) 2 9 n c_subM := by
  rintro ⟨j, U, W, g, y, e⟩ vs M0 ⟨rfl, hW, hj, hg, hU, hy, hE, he, hD⟩ aw run
  have hW1 : M0 15 1 = (nd W : Int) := hW.1
  have l14 : lnF n 14 = 130 := rfl
  have m14 : lnF n (13 + 1) = 130 := rfl
  have m16 : lnF n (15 + 1) = 130 := rfl
  have l16 : lnF n 16 = 130 := rfl
  have eq : ∀ i, i < nd W → dg y i + g * dg W i + cyM y g W i = dg U i + 32768 * cyM y g W (i + 1) := by
    intro i hi
    have a1 := cyM_d y g W i
    have a2 := cyM_s y g W i
    rw [hE, dg_addhi hi] at a1
    omega
  have etop : cyM y g W (nd W) = dg U (nd W) + e := by
    unfold cyM
    rw [Nat.mod_eq_of_lt hy, md_nd (Nat.le_refl _), hE, Nat.add_mul_div_right _ _ (nn_pos _)]
    have := dv_s U (nd W)
    rw [Nat.div_eq_of_lt hU] at this
    omega
  have loop : ∀ (r i : Nat) (M : Mem) (o8 : Option AV), i + r = nd W → (∀ o, o ≠ 14 → M o = M0 o) → (∀ k, k < i → M 14 (j + k) = (dg y k : Int)) → (∀ k, (k < j ∨ j + i ≤ k) → M 14 k = M0 14 k) → aw 32 [some (.inr (.inr 6)), some (.inl (g : Int)), some (.inl (j : Int)), some (.inr (.inr 14)), some (.inr (.inr 16)), some (.inl (nd W : Int)), some (.inl (cyM y g W i : Int)), some (.inl (i : Int)), o8] [] M := by
    intro r
    induction r with
    | zero =>
      intro i M o8 hi hF hA hB
      obtain rfl : i = nd W := by omega
      have L : M 14 (j + nd W) = (dg U (nd W) : Int) := by rw [hB _ (by omega)]; exact hD _ (Nat.le_refl _)
      have gl := dg_lt U (nd W)
      refine run 60 [32] _ _ _ _ ?_
      refine And.intro ⟨⟨by omega, by omega⟩, ⟨by omega, by omega⟩⟩ (And.intro (fun _ => ?_) (fun c2 => absurd c2 (by omega)))
      refine And.intro ⟨rfl, by omega, by omega⟩ ?_
      conv => whnf
      rw [show ((j : Int) + (nd W : Int)).toNat = j + nd W by omega, L, etop]
      by_cases c : e = 0
      · subst c
        refine And.intro ⟨⟨by omega, by omega⟩, ⟨by omega, by omega⟩⟩ (And.intro (fun _ => ?_) (fun c2 => absurd c2 (by omega)))
        exact And.intro (Or.inl rfl) (Or.inl ⟨rfl, hA, hF, hB⟩)
      · obtain rfl : e = 1 := by omega
        refine And.intro ⟨⟨by omega, by omega⟩, ⟨by omega, by omega⟩⟩ (And.intro (fun c1 => absurd c1 (by omega)) (fun _ => ?_))
        exact And.intro (Or.inr rfl) (Or.inl ⟨rfl, hA, hF, hB⟩)
    | succ r ih =>
      intro i M o8 hi hF hA hB
      have L1 : M 14 (j + i) = (dg U i : Int) := by rw [hB _ (by omega)]; exact hD _ (by omega)
      have L2 : M 16 i = (dg W i : Int) := by rw [hF 16 (by decide)]; exact hW.2 i (by omega)
      have g1 := dg_lt U i
      have g2 := dg_lt W i
      have g3 := dg_lt y i
      have c1 := cyM_le y g W i
      have c2 := cyM_le y g W (i + 1)
      have e1 := eq i (by omega)
      have hm : g * dg W i ≤ 32768 * 32767 := Nat.mul_le_mul hg (by omega)
      refine run 60 [32] _ _ _ _ ?_
      refine And.intro ⟨⟨by omega, by omega⟩, ⟨by omega, by omega⟩⟩ (And.intro (fun c1 => absurd c1 (by omega)) (fun _ => ?_))
      refine And.intro ⟨rfl, by omega, by omega⟩ (And.intro ⟨rfl, by omega, by omega⟩ ?_)
      conv => whnf
      rw [show ((i : Int) + (j : Int)).toNat = j + i by omega, Int.toNat_natCast, L1, L2, ← Int.natCast_mul]
      generalize g * dg W i = z at *
      refine And.intro ⟨rfl, by omega, by omega⟩ (And.intro ⟨⟨by omega, by omega⟩, by omega, by omega⟩ (And.intro ?_ trivial))
      rw [bAnd_15, show ((2 : Int) ^ ((15 : Int)).toNat) = 32768 by decide, show ((dg U i : Int) - (z : Int) - (cyM y g W i : Int)) % 32768 = (dg y i : Int) by omega, show -(((dg U i : Int) - (z : Int) - (cyM y g W i : Int)) / 32768) = (cyM y g W (i + 1) : Int) by omega, show (i : Int) + 1 = ((i + 1 : Nat) : Int) by omega]
      refine ih (i + 1) _ _ (by omega) (fun o ho => ?_) (fun k hk => ?_) (fun k hk => ?_)
      · rw [up2_i ho]
        exact hF o ho
      · by_cases c : k = i
        · rw [c, up2_s]
        · rw [up2_k (by omega)]
          exact hA k (by omega)
      · rw [up2_k (by omega)]
        exact hB k (by omega)
  change aw 0 [some (.inr (.inr 6)), some (.inl (g : Int)), some (.inl (j : Int)), none, none, none, none, none, none] [] M0
  refine run 60 [32] _ _ _ _ ?_
  refine And.intro rfl (And.intro rfl (And.intro rfl (And.intro rfl (And.intro rfl (And.intro rfl (And.intro ?_ trivial))))))
  rw [hW1]
  have := loop (nd W) 0 M0 none (by omega) (fun _ _ => rfl) (fun k hk => by omega) (fun _ _ => rfl)
  rw [cyM_0] at this
  exact this
theorem imX0_subtractMultiple {l : Launch} {Z : ZT} (hZ : ZOk Z) : Impl l Z yX0_subtractMultiple cX0_subtractMultiple 9 (some .boolean) 1 c_subM := mkImpl (rt := 2) (CL := []) hZ.1 hZ.2.1 (by decide +kernel) kX0_subtractMultiple fwX0 iwX0 lwX0 trivial (Nat.le_of_ble_eq_true rfl) (fun q h => absurd h List.not_mem_nil) ((v_subM _))
theorem gX0_85 {l : Launch} {Z : ZT} (hZ : ZOk Z) {d : Nat} (hd : 2 ≤ d) : CallI l Z RX0 d (85, some 0, c_subM) := fun p e s m args below meth c Q cc nL x0 X => callOk_V X (imX0_subtractMultiple hZ) (by decide) rfl mlX0_85 iw_yX0_subtractMultiple vw_yX0_subtractMultiple nw_RX0 cw_yX0_subtractMultiple ⟨by decide +kernel, by decide +kernel, by decide +kernel⟩ ⟨hd, by decide⟩
/-- addBack(j) -/
def c_addB : Call := ⟨Nat × Nat × Nat × Nat, 2, (fun (j, W, y, z) vs M => vs = [.inr (.inr 6), .inl (j : Int)] ∧ XR M 15 W ∧ j + nd W ≤ 129 ∧ y + W = z + 1 * 32768 ^ nd W ∧ (∀ i, i < nd W → M 14 (j + i) = (dg y i : Int))), .inl (fun (j, W, _, z) _ M M' => (∀ i, i < nd W → M' 14 (j + i) = (dg z i : Int)) ∧ FrW M M' j (nd W))⟩
theorem v_addB (n : Nn) : Ver tX0_addBack (fdX0, icX0, lcX0, []) 0 6 n c_addB := by
  rintro ⟨j, W, y, z⟩ vs M0 ⟨rfl, hW, hj, hE, hD⟩ aw run
  have hW1 : M0 15 1 = (nd W : Int) := hW.1
  have l14 : lnF n 14 = 130 := rfl
  have m14 : lnF n (13 + 1) = 130 := rfl
  have m16 : lnF n (15 + 1) = 130 := rfl
  have l16 : lnF n 16 = 130 := rfl
  have loop : ∀ (r i : Nat) (M : Mem) (o5 : Option AV), i + r = nd W → (∀ o, o ≠ 14 → M o = M0 o) → (∀ k, k < i → M 14 (j + k) = (dg z k : Int)) → (∀ k, (k < j ∨ j + i ≤ k) → M 14 k = M0 14 k) → aw 13 [some (.inr (.inr 6)), some (.inl (j : Int)), some (.inl (nd W : Int)), some (.inl (cyA y W i : Int)), some (.inl (i : Int)), o5] [] M := by
    intro r
    induction r with
    | zero =>
      intro i M o5 hi hF hA hB
      obtain rfl : i = nd W := by omega
      refine run 60 [13] _ _ _ _ ?_
      refine And.intro ⟨⟨by omega, by omega⟩, ⟨by omega, by omega⟩⟩ (And.intro (fun _ => ?_) (fun c2 => absurd c2 (by omega)))
      exact Or.inl ⟨hA, hF, hB⟩
    | succ r ih =>
      intro i M o5 hi hF hA hB
      have L1 : M 14 (j + i) = (dg y i : Int) := by rw [hB _ (by omega)]; exact hD _ (by omega)
      have L2 : M 16 i = (dg W i : Int) := by rw [hF 16 (by decide)]; exact hW.2 i (by omega)
      have g1 := dg_lt y i
      have g2 := dg_lt W i
      have c1 := cyA_lt y W i
      have a1 := cyA_d y W i
      have a2 := cyA_s y W i
      rw [hE, dg_addhi (show i < nd W by omega)] at a1
      refine run 60 [13] _ _ _ _ ?_
      refine And.intro ⟨⟨by omega, by omega⟩, ⟨by omega, by omega⟩⟩ (And.intro (fun c1 => absurd c1 (by omega)) (fun _ => ?_))
      refine And.intro rfl (And.intro rfl (And.intro ⟨rfl, by omega, by omega⟩ (And.intro rfl (And.intro rfl (And.intro ⟨rfl, by omega, by omega⟩ ?_)))))
      refine And.intro rfl (And.intro rfl ?_)
      conv => whnf
      rw [show ((i : Int) + (j : Int)).toNat = j + i by omega, Int.toNat_natCast, L1, L2]
      refine And.intro ⟨rfl, by omega, by omega⟩ (And.intro ⟨⟨by omega, by omega⟩, by omega, by omega⟩ (And.intro ?_ trivial))
      rw [bAnd_15, show ((2 : Int) ^ ((15 : Int)).toNat) = 32768 by decide, show ((dg y i : Int) + (dg W i : Int) + (cyA y W i : Int)) % 32768 = (dg z i : Int) by omega, show ((dg y i : Int) + (dg W i : Int) + (cyA y W i : Int)) / 32768 = (cyA y W (i + 1) : Int) by omega, show (i : Int) + 1 = ((i + 1 : Nat) : Int) by omega]
      refine ih (i + 1) _ _ (by omega) (fun o ho => ?_) (fun k hk => ?_) (fun k hk => ?_)
      · rw [up2_i ho]
        exact hF o ho
      · by_cases c : k = i
        · rw [c, up2_s]
        · rw [up2_k (by omega)]
          exact hA k (by omega)
      · rw [up2_k (by omega)]
        exact hB k (by omega)
  change aw 0 [some (.inr (.inr 6)), some (.inl (j : Int)), none, none, none, none] [] M0
  refine run 60 [13] _ _ _ _ ?_
  refine And.intro rfl (And.intro rfl (And.intro ?_ trivial))
  rw [hW1]
  have := loop (nd W) 0 M0 none (by omega) (fun _ _ => rfl) (fun k hk => by omega) (fun _ _ => rfl)
  rw [cyA_0] at this
  exact this
theorem imX0_addBack {l : Launch} {Z : ZT} (hZ : ZOk Z) : Impl l Z yX0_addBack cX0_addBack 6 none 1 c_addB := mkImpl (rt := 0) (CL := []) hZ.1 hZ.2.1 (by decide +kernel) kX0_addBack fwX0 iwX0 lwX0 trivial (Nat.le_of_ble_eq_true rfl) (fun q h => absurd h List.not_mem_nil) ((v_addB _))
theorem gX0_89 {l : Launch} {Z : ZT} (hZ : ZOk Z) {d : Nat} (hd : 2 ≤ d) : CallI l Z RX0 d (89, some 0, c_addB) := fun p e s m args below meth c Q cc nL x0 X => callOk_V X (imX0_addBack hZ) (by decide) rfl mlX0_89 iw_yX0_addBack vw_yX0_addBack nw_RX0 cw_yX0_addBack ⟨by decide +kernel, by decide +kernel, by decide +kernel⟩ ⟨hd, by decide⟩
/-- the divisor is shifted until its highest bit is 1 -/
theorem kn_norm {w s : Nat} (hw : w ≠ 0) (hs : s + nb (dg w (nd w - 1)) = 15) : nd (w * 2 ^ s) = nd w ∧ 16384 ≤ dg (w * 2 ^ s) (nd w - 1) := by
  have n0 : nd w ≠ 0 := fun z => hw (nd_z.mp z)
  obtain ⟨m, em⟩ : ∃ m, nd w = m + 1 := ⟨nd w - 1, by omega⟩
  have t0 := dg_top hw
  rw [em, show m + 1 - 1 = m by omega] at hs t0 ⊢
  have hwl : w < 32768 ^ (m + 1) := by rw [← em]; exact nd_lt w
  have w1 := dv_s w m
  rw [Nat.div_eq_of_lt hwl] at w1
  have ew : dg w m = w / 32768 ^ m := by omega
  have bw := dv_bd w m
  rw [← ew] at bw
  generalize dg w m = t at *
  have b1 : t < 2 ^ nb t := nb_le.mp (Nat.le_refl _)
  have b2 : 2 ^ (nb t - 1) ≤ t := by
    refine Nat.le_of_not_lt (fun c => ?_)
    have := nb_le.mpr c
    have : nb t ≠ 0 := fun z => t0 (by have := nb_le.mp (Nat.le_of_eq z); simpa using this)
    omega
  have nt : nb t ≠ 0 := fun z => t0 (by have := nb_le.mp (Nat.le_of_eq z); simpa using this)
  have p1 : (t + 1) * 2 ^ s ≤ 32768 := by
    have : (t + 1) * 2 ^ s ≤ 2 ^ nb t * 2 ^ s := Nat.mul_le_mul_right _ b1
    rw [← Nat.pow_add, show nb t + s = 15 by omega] at this
    exact this
  have p2 : 16384 ≤ t * 2 ^ s := by
    have : 2 ^ (nb t - 1) * 2 ^ s ≤ t * 2 ^ s := Nat.mul_le_mul_right _ b2
    rw [← Nat.pow_add, show nb t - 1 + s = 14 by omega] at this
    exact this
  have ps : 0 < 2 ^ s := Nat.pow_pos (by decide)
  have hi : w * 2 ^ s < 32768 ^ (m + 1) := by
    have h1 := Nat.mul_lt_mul_of_pos_right bw.2 ps
    have h2 := Nat.mul_le_mul_right (32768 ^ m) p1
    rw [nn_succ, Nat.mul_comm (32768 ^ m)]
    have e : (t + 1) * 32768 ^ m * 2 ^ s = (t + 1) * 2 ^ s * 32768 ^ m := by grind
    omega
  have lo : 16384 ≤ w * 2 ^ s / 32768 ^ m := by
    rw [Nat.le_div_iff_mul_le (nn_pos m)]
    have h1 := Nat.mul_le_mul_right (2 ^ s) bw.1
    have h2 := Nat.mul_le_mul_right (32768 ^ m) p2
    have e : t * 32768 ^ m * 2 ^ s = t * 2 ^ s * 32768 ^ m := by grind
    omega
  have d1 := dv_s (w * 2 ^ s) m
  rw [Nat.div_eq_of_lt hi] at d1
  have d2 : 16384 ≤ dg (w * 2 ^ s) m := by omega
  exact ⟨nd_up (nd_le.mpr hi) (by omega), d2⟩
abbrev isIn (r : Nat) : Prop := isRw r ∧ r ≠ 7 ∧ r ≠ 9 ∧ r ≠ 13 ∧ r ≠ 15
def FrD (M M' : Mem) : Prop := ∀ o, o ≠ 7 → o ≠ 8 → o ≠ 9 → o ≠ 10 → o ≠ 13 → o ≠ 14 → o ≠ 15 → o ≠ 16 → M' o = M o
theorem FrD.rf (M : Mem) : FrD M M := fun _ _ _ _ _ _ _ _ _ => rfl
theorem FrD.tr {M M1 M2 : Mem} (h : FrD M M1) (h2 : FrD M1 M2) : FrD M M2 := fun o a b c d e f g i => (h2 o a b c d e f g i).trans (h o a b c d e f g i)
theorem FrX.D {M M' : Mem} {r : Nat} (h : FrX M M' r) (hr : r = 7 ∨ r = 9 ∨ r = 13 ∨ r = 15) : FrD M M' := fun o _ _ _ _ _ _ _ _ => h o (by omega) (by omega)
theorem FrD.keep {M M' : Mem} {s v : Nat} (h : FrD M M') (hs : isIn s) (hv : XR M s v) : XR M' s v := by
  unfold XR at *
  rw [h s (by omega) (by omega) (by omega) (by omega) (by omega) (by omega) (by omega) (by omega), h (s + 1) (by omega) (by omega) (by omega) (by omega) (by omega) (by omega) (by omega) (by omega)]
  exact hv
theorem FrW.D {M M' : Mem} {j k : Nat} (h : FrW M M' j k) : FrD M M' := fun o _ _ _ _ _ a _ _ => h.1 o a
/-- divide(a, b) -/
def c_divX : Call := ⟨Nat × Nat × Nat × Nat, 3, (fun (a, b, v, w) vs M => vs = [.inr (.inr 6), .inr (.inr a), .inr (.inr b)] ∧ isIn a ∧ isIn b ∧ XR M a v ∧ nd v ≤ 128 ∧ XR M b w ∧ nd w ≤ 128), .inl (fun (_, _, v, w) _ M M' => XR M' 7 (v / w) ∧ XR M' 9 (v % w) ∧ FrD M M')⟩
set_option maxHeartbeats 4000000 in
theorem v_divX (n : Nn) : Ver tX0_divide (fdX0, icX0, lcX0, [(67, none, c_order), (71, some 5, c_copyX), (54, some 5, c_trim), (75, none, c_bitsOf), (78, none, c_shiftUp), (82, some 0, c_guess), (85, some 0, c_subM), (89, some 0, c_addB), (92, none, c_shiftDown)]) 0 8 n c_divX := by
  rintro ⟨a, b, v, w⟩ vs M0 ⟨rfl, ha, hb, hv, hnv, hw, hnw⟩ aw run
  have l8 : lnF n 8 = 130 := rfl
  have m8 : lnF n (7 + 1) = 130 := rfl
  have hlb := hb.1.ln n
  have h1 : M0 a 1 = (nd v : Int) := hv.1
  have h2 : M0 b 1 = (nd w : Int) := hw.1
  have small : v / w = 0 → v % w = v → aw 24 [some (.inr (.inr 6)), some (.inr (.inr a)), some (.inr (.inr b)), some (.inl (nd v : Int)), some (.inl (nd w : Int)), none, none, none] [] M0 := by
    intro e1 e2
    refine run 60 [] _ _ _ _ ?_
    refine And.intro rfl (And.intro rfl ⟨(9, a, v), ⟨rfl, by decide, ha.1, by omega, hv, by omega⟩, ?_⟩)
    rintro M1 ⟨hX1, hF1⟩
    refine And.intro rfl (And.intro rfl ⟨(7, 0, 0), ⟨rfl, by decide, by omega, by decide, fun i hi => by omega⟩, ?_⟩)
    rintro M2 rfl
    refine Or.inl ?_
    show XR (up2 M1 7 1 (nd 0 : Int)) 7 (v / w) ∧ XR (up2 M1 7 1 (nd 0 : Int)) 9 (v % w) ∧ FrD M0 (up2 M1 7 1 (nd 0 : Int))
    rw [e1, e2]
    refine ⟨XR.fix (k := 0) (fun i hi => by omega) (by decide), ?_, ?_⟩
    · exact (FrX.len (r := 7)).keep (by decide) (by decide) (by decide) hX1
    · exact (hF1.D (by omega)).tr ((FrX.len (r := 7)).D (by omega))
  change aw 0 [some (.inr (.inr 6)), some (.inr (.inr a)), some (.inr (.inr b)), none, none, none, none, none] [] M0
  refine run 60 [24, 41] _ _ _ _ ?_
  refine And.intro ha.1.kd (And.intro hb.1.kd ?_)
  conv => whnf
  rw [h1, h2]
  refine And.intro ⟨⟨by omega, by omega⟩, ⟨by omega, by omega⟩⟩ (And.intro (fun c1 => ?_) (fun c2 => ?_))
  · refine And.intro (small ?_ ?_) trivial
    · rw [nd_z.mp (show nd w = 0 by omega), Nat.div_zero]
    · rw [nd_z.mp (show nd w = 0 by omega), Nat.mod_zero]
  have w0 : w ≠ 0 := fun z => by rw [z, nd_0] at c2; omega
  refine ⟨(a, b, v, w), ⟨rfl, ha.1, hb.1, hv, by omega, hw, by omega⟩, ?_⟩
  rintro x M0 ⟨rfl, rfl⟩
  by_cases hvw : v < w
  · rw [cm3_lt hvw]
    refine And.intro ⟨⟨by omega, by omega⟩, ⟨by omega, by omega⟩⟩ (And.intro (fun c1 => absurd c1 (by omega)) (fun _ => ?_))
    exact And.intro (small (Nat.div_eq_of_lt hvw) (Nat.mod_eq_of_lt hvw)) trivial
  have hge : 0 ≤ cm3 v w ∧ cm3 v w ≤ 1 := by
    have := cm3_cases v w
    omega
  refine And.intro ⟨⟨by omega, by omega⟩, ⟨by omega, by omega⟩⟩ (And.intro (fun _ => ?_) (fun c2 => absurd c2 (by omega)))
  refine And.intro ?_ trivial
  clear small
  have n0 : nd w ≠ 0 := fun z => w0 (nd_z.mp z)
  have hnn : nd w ≤ nd v := nd_mono (by omega)
  have Lt : M0 (b + 1) (nd w - 1) = (dg w (nd w - 1) : Int) := hw.2 _ (by omega)
  have gt := dg_lt w (nd w - 1)
  have tp := dg_top w0
  refine run 60 [84] _ _ _ _ ?_
  refine And.intro hb.1.kd (And.intro ⟨hb.1.ka, by omega, by omega⟩ ?_)
  conv => whnf
  rw [show ((nd w : Int) - 1).toNat = nd w - 1 by omega, Lt]
  refine ⟨(dg w (nd w - 1), 0), ⟨rfl, gt⟩, ?_⟩
  rintro x M0 ⟨rfl, rfl⟩
  have hb15 : nb (dg w (nd w - 1)) ≤ 15 := nb_le.mpr gt
  have hb0 : nb (dg w (nd w - 1)) ≠ 0 := fun z => tp (by have := nb_le.mp (Nat.le_of_eq z); simpa using this)
  obtain ⟨s, es⟩ : ∃ s, s + nb (dg w (nd w - 1)) = 15 := ⟨15 - nb (dg w (nd w - 1)), by omega⟩
  obtain ⟨hnW, htW⟩ := kn_norm w0 es
  have ps : 0 < 2 ^ s := Nat.pow_pos (by decide)
  conv => whnf
  rw [show (15 : Int) - (nb (dg w (nd w - 1)) : Int) = (s : Int) by omega]
  refine And.intro rfl ⟨(13, a, s, v), ⟨rfl, by decide, ha.1, by omega, hv, by omega⟩, ?_⟩
  rintro M1 ⟨hX1, hD1, hF1⟩
  refine And.intro rfl ⟨(15, b, s, w), ⟨rfl, by decide, hb.1, by omega, hF1.keep (by decide) hb.1 hb.2.2.2.1 hw, by omega⟩, ?_⟩
  rintro M2 ⟨hX2, -, hF2⟩
  have f2 : FrD M0 M2 := (hF1.D (by omega)).tr (hF2.D (by omega))
  have eQ : v * 2 ^ s / (w * 2 ^ s) = v / w := Nat.mul_div_mul_right _ _ ps
  have eR : v * 2 ^ s % (w * 2 ^ s) = v % w * 2 ^ s := Nat.mul_mod_mul_right _ _ _
  have hD2 : ∀ j, j ≤ nd v → M2 14 j = (dg (v * 2 ^ s) j : Int) := by
    intro j hj
    rw [hF2 14 (by decide) (by decide)]
    exact hD1 j (by omega)
  have hVb : v * 2 ^ s / 32768 ^ (nd v - nd w + 1) < w * 2 ^ s := by
    rw [Nat.div_lt_iff_lt_mul (nn_pos _)]
    have a1 : v * 2 ^ s < 32768 ^ nd v * 2 ^ s := Nat.mul_lt_mul_of_pos_right (nd_lt v) ps
    have a2 : 32768 ^ (nd w - 1) ≤ w := nd_gt.mp (by omega)
    have a3 : 32768 ^ nd v = 32768 ^ (nd w - 1) * 32768 ^ (nd v - nd w + 1) := by
      rw [← Nat.pow_add]
      congr 1
      omega
    have a4 : 32768 ^ (nd w - 1) * 32768 ^ (nd v - nd w + 1) * 2 ^ s ≤ w * 32768 ^ (nd v - nd w + 1) * 2 ^ s := Nat.mul_le_mul_right _ (Nat.mul_le_mul_right _ a2)
    have a5 : w * 2 ^ s * 32768 ^ (nd v - nd w + 1) = w * 32768 ^ (nd v - nd w + 1) * 2 ^ s := by grind
    rw [a3] at a1
    omega
  have hql : v / w < 32768 ^ (nd v - nd w + 1) := by
    rw [← eQ, Nat.div_lt_iff_lt_mul (Nat.mul_pos (Nat.pos_of_ne_zero w0) ps)]
    have := (Nat.div_lt_iff_lt_mul (nn_pos _)).mp hVb
    rw [Nat.mul_comm (w * 2 ^ s)] at this
    exact this
  have hW0 : 0 < w * 2 ^ s := Nat.mul_pos (Nat.pos_of_ne_zero w0) ps
  have hWl : w * 2 ^ s < 32768 ^ nd w := by rw [← hnW]; exact nd_lt _
  rw [← hnW] at htW
  generalize eV : v * 2 ^ s = V at *
  generalize eW : w * 2 ^ s = W at *
  have loop : ∀ (k : Nat) (M : Mem) (o7 : Option AV), k ≤ nd v - nd w + 1 → XR M 15 W → (∀ i, i < nd w → M 14 (k + i) = (dg (V / 32768 ^ k % W) i : Int)) → (∀ i, i < k → M 14 i = (dg V i : Int)) → (∀ i, k ≤ i → i < nd v - nd w + 1 → M 8 i = (dg (v / w) i : Int)) → FrD M0 M → aw 84 [some (.inr (.inr 6)), some (.inr (.inr a)), some (.inr (.inr b)), some (.inl (nd v : Int)), some (.inl (nd w : Int)), some (.inl (s : Int)), some (.inl ((k : Int) - 1)), o7] [] M := by
    intro k
    induction k with
    | zero =>
      intro M o7 _ hX hR hV hQ hF
      rw [Nat.pow_zero, Nat.div_one, eR] at hR
      have hrl : v % w * 2 ^ s < 32768 ^ nd w := by
        rw [← eR]
        exact Nat.lt_trans (Nat.mod_lt _ hW0) hWl
      refine run 60 [84] _ _ _ _ ?_
      refine And.intro ⟨⟨by omega, by omega⟩, ⟨by omega, by omega⟩⟩ (And.intro (fun _ => ?_) (fun c2 => absurd c2 (by omega)))
      refine And.intro rfl ?_
      conv => whnf
      rw [show (nd v : Int) - (nd w : Int) + 1 = ((nd v - nd w + 1 : Nat) : Int) by omega]
      refine And.intro rfl ⟨(7, nd v - nd w + 1, v / w), ⟨rfl, by decide, by omega, hql, fun i hi => hQ i (by omega) hi⟩, ?_⟩
      rintro M3 rfl
      have x7 : XR (up2 M 7 1 (nd (v / w) : Int)) 7 (v / w) := XR.fix (fun i hi => hQ i (by omega) hi) hql
      have f7 : FrX M (up2 M 7 1 (nd (v / w) : Int)) 7 := FrX.len
      have d14 : ∀ i, i < nd w → up2 M 7 1 (nd (v / w) : Int) 14 i = (dg (v % w * 2 ^ s) i : Int) := by
        intro i hi
        rw [f7 14 (by decide) (by decide)]
        have := hR i hi
        rw [Nat.zero_add] at this
        exact this
      generalize up2 M 7 1 (nd (v / w) : Int) = M3 at *
      refine And.intro rfl (And.intro rfl ⟨(13, nd w, v % w * 2 ^ s), ⟨rfl, by decide, by omega, hrl, d14⟩, ?_⟩)
      rintro M4 rfl
      have x13 : XR (up2 M3 13 1 (nd (v % w * 2 ^ s) : Int)) 13 (v % w * 2 ^ s) := XR.fix d14 hrl
      have f13 : FrX M3 (up2 M3 13 1 (nd (v % w * 2 ^ s) : Int)) 13 := FrX.len
      have y7 := f13.keep (by decide) (by decide) (by decide) x7
      generalize up2 M3 13 1 (nd (v % w * 2 ^ s) : Int) = M4 at *
      refine And.intro rfl (And.intro rfl ⟨(9, 13, s, v % w * 2 ^ s), ⟨rfl, by decide, by decide, by omega, x13, by have := nd_le.mpr hrl; omega⟩, ?_⟩)
      rintro M5 ⟨hX5, hF5⟩
      rw [Nat.mul_div_cancel _ ps] at hX5
      exact Or.inl ⟨hF5.keep (by decide) (by decide) (by decide) y7, hX5, ((hF.tr (f7.D (by omega))).tr (f13.D (by omega))).tr (hF5.D (by omega))⟩
    | succ k ih =>
      intro M o7 hk hX hR hV hQ hF
      rw [show (((k + 1 : Nat) : Int) - 1) = (k : Int) by omega]
      have gv := dg_lt V k
      have rl := Nat.mod_lt (V / 32768 ^ (k + 1)) hW0
      have hdig := ld_dig V W k hW0
      have hrest := ld_rest V W k
      have hU0 : ∀ i, i ≤ nd W → M 14 (k + i) = (dg (V / 32768 ^ (k + 1) % W * 32768 + dg V k) i : Int) := by
        intro i hi
        cases i with
        | zero =>
          rw [sh_dg0 _ _ gv]
          exact hV k (by omega)
        | succ i =>
          rw [sh_dgs _ _ _ gv, show k + (i + 1) = k + 1 + i by omega]
          exact hR i (by omega)
      have hUW : V / 32768 ^ (k + 1) % W * 32768 + dg V k < W * 32768 := by omega
      have hUl : V / 32768 ^ (k + 1) % W * 32768 + dg V k < 32768 ^ (nd W + 1) := by
        rw [nn_succ, hnW]
        exact Nat.lt_trans hUW (Nat.mul_lt_mul_of_pos_right hWl (by decide))
      rw [eQ] at hdig
      generalize V / 32768 ^ (k + 1) % W * 32768 + dg V k = U at *
      have gq := dg_lt (v / w) k
      have fin : ∀ M' : Mem, (∀ i, i < nd w → M' 14 (k + i) = (dg (U % W) i : Int)) → FrW M M' k (nd w) → aw 117 [some (.inr (.inr 6)), some (.inr (.inr a)), some (.inr (.inr b)), some (.inl (nd v : Int)), some (.inl (nd w : Int)), some (.inl (s : Int)), some (.inl (k : Int)), some (.inl (dg (v / w) k : Int))] [] M' := by
        intro M' hd' hf'
        refine run 60 [84] _ _ _ _ ?_
        refine And.intro rfl (And.intro rfl (And.intro ⟨rfl, by omega, by omega⟩ (And.intro ?_ trivial)))
        rw [Int.toNat_natCast]
        refine ih _ _ (by omega) ?_ (fun i hi => ?_) (fun i hi => ?_) (fun i hi1 hi2 => ?_) (fun o p1 p2 p3 p4 p5 p6 p7 p8 => ?_)
        · unfold XR
          rw [up2_i (by decide), up2_i (by decide), hf'.1 15 (by decide), hf'.1 16 (by decide)]
          exact hX
        · rw [up2_i (by decide), ← hrest]
          exact hd' i hi
        · rw [up2_i (by decide), hf'.2 i (by omega)]
          exact hV i (by omega)
        · by_cases c : i = k
          · rw [c, up2_s]
          · rw [up2_k c, hf'.1 8 (by decide)]
            exact hQ i (by omega) hi2
        · rw [up2_i p2, hf'.1 o p6]
          exact hF o p1 p2 p3 p4 p5 p6 p7 p8
      refine run 60 [84, 117] _ _ _ _ ?_
      refine And.intro ⟨⟨by omega, by omega⟩, ⟨by omega, by omega⟩⟩ (And.intro (fun c1 => absurd c1 (by omega)) (fun _ => ?_))
      refine And.intro rfl ⟨(k, U, W), ⟨rfl, hX, by omega, htW, hUW, hU0⟩, ?_⟩
      rintro x M ⟨g, rfl, hg1, hg2, rfl⟩
      rw [hdig] at hg1 hg2
      have ud := Nat.div_add_mod U W
      have um := Nat.mod_lt U hW0
      rw [hdig] at ud
      by_cases c : g * W ≤ U
      · have eg : g = dg (v / w) k := by
          have : g ≤ U / W := (Nat.le_div_iff_mul_le hW0).mpr c
          omega
        have ey : U % W + g * W = U + 0 * 32768 ^ nd W := by
          rw [eg, Nat.mul_comm (dg (v / w) k)]
          omega
        refine And.intro rfl ⟨(k, U, W, g, U % W, 0), ⟨rfl, hX, by omega, by omega, hUl, by rw [hnW]; omega, ey, by omega, hU0⟩, ?_⟩
        rintro x M' ⟨rfl, hd', hf'⟩
        rw [hnW] at hd' hf'
        refine And.intro ⟨⟨by omega, by omega⟩, ⟨by omega, by omega⟩⟩ (And.intro (fun _ => ?_) (fun c2 => absurd c2 (by omega)))
        refine And.intro ?_ trivial
        rw [eg]
        exact fin M' hd' hf'
      · have eg : g = dg (v / w) k + 1 := by
          refine Nat.le_antisymm hg2 (Nat.lt_of_not_le (fun z => c ?_))
          have := Nat.mul_le_mul_right W z
          rw [Nat.mul_comm (dg (v / w) k)] at this
          omega
        have eg2 : g * W = W * dg (v / w) k + W := by
          rw [eg, Nat.add_mul, Nat.one_mul, Nat.mul_comm]
        have ey : (U % W + 32768 ^ nd w - W) + g * W = U + 1 * 32768 ^ nd W := by
          rw [hnW]
          omega
        refine And.intro rfl ⟨(k, U, W, g, U % W + 32768 ^ nd w - W, 1), ⟨rfl, hX, by omega, by omega, hUl, by rw [hnW]; omega, ey, by omega, hU0⟩, ?_⟩
        rintro x M' ⟨rfl, hd', hf'⟩
        refine And.intro ⟨⟨by omega, by omega⟩, ⟨by omega, by omega⟩⟩ (And.intro (fun c1 => absurd c1 (by omega)) (fun _ => ?_))
        have hX' : XR M' 15 W := by
          unfold XR
          rw [hf'.1 15 (by decide), hf'.1 16 (by decide)]
          exact hX
        refine And.intro rfl ⟨(k, W, U % W + 32768 ^ nd w - W, U % W), ⟨rfl, hX', by omega, by rw [hnW]; omega, hd'⟩, ?_⟩
        rintro M'' ⟨hd'', hf''⟩
        rw [hnW] at hd'' hf' hf''
        refine And.intro ?_ trivial
        rw [eg, show ((dg (v / w) k + 1 : Nat) : Int) + -1 = (dg (v / w) k : Int) by omega]
        exact fin M'' hd'' ⟨fun o ho => (hf''.1 o ho).trans (hf'.1 o ho), fun i hi => (hf''.2 i hi).trans (hf'.2 i hi)⟩
  refine And.intro ?_ trivial
  have hR0 : ∀ i, i < nd w → M2 14 (nd v - nd w + 1 + i) = (dg (V / 32768 ^ (nd v - nd w + 1) % W) i : Int) := by
    intro i hi
    rw [Nat.mod_eq_of_lt hVb, ← dg_hi]
    exact hD2 _ (by omega)
  have := loop (nd v - nd w + 1) M2 none (Nat.le_refl _) hX2 hR0 (fun i hi => hD2 i (by omega)) (fun i h1 h2 => by omega) f2
  rw [show ((nd v - nd w + 1 : Nat) : Int) - 1 = (nd v : Int) - (nd w : Int) by omega] at this
  exact this
theorem imX0_divide {l : Launch} {Z : ZT} (hZ : ZOk Z) : Impl l Z yX0_divide cX0_divide 8 none 4 c_divX := mkImpl (rt := 0) (CL := [(67, none, c_order), (71, some 5, c_copyX), (54, some 5, c_trim), (75, none, c_bitsOf), (78, none, c_shiftUp), (82, some 0, c_guess), (85, some 0, c_subM), (89, some 0, c_addB), (92, none, c_shiftDown)]) hZ.1 hZ.2.1 (by decide +kernel) kX0_divide fwX0 iwX0 lwX0 trivial (Nat.le_of_ble_eq_true rfl) (List.forall_mem_cons.mpr ⟨gX0_67 hZ (by decide), List.forall_mem_cons.mpr ⟨gX0_71 hZ (by decide), List.forall_mem_cons.mpr ⟨gX0_54 hZ (by decide), List.forall_mem_cons.mpr ⟨gX0_75 hZ (by decide), List.forall_mem_cons.mpr ⟨gX0_78 hZ (by decide), List.forall_mem_cons.mpr ⟨gX0_82 hZ (by decide), List.forall_mem_cons.mpr ⟨gX0_85 hZ (by decide), List.forall_mem_cons.mpr ⟨gX0_89 hZ (by decide), List.forall_mem_cons.mpr ⟨gX0_92 hZ (by decide), fun q h => absurd h List.not_mem_nil⟩⟩⟩⟩⟩⟩⟩⟩⟩) ((v_divX _))
theorem gX0_95 {l : Launch} {Z : ZT} (hZ : ZOk Z) {d : Nat} (hd : 5 ≤ d) : CallI l Z RX0 d (95, some 0, c_divX) := fun p e s m args below meth c Q cc nL x0 X => callOk_V X (imX0_divide hZ) (by decide) rfl mlX0_95 iw_yX0_divide vw_yX0_divide nw_RX0 cw_yX0_divide ⟨by decide +kernel, by decide +kernel, by decide +kernel⟩ ⟨hd, by decide⟩
theorem gX2_139 {l : Launch} {Z : ZT} (hZ : ZOk Z) {d : Nat} (hd : 5 ≤ d) : CallI l Z RX2 d (139, some 0, c_divX) := fun p e s m args below meth c Q cc nL x0 X => callOk_V X (imX0_divide hZ) (by decide) rfl mlX2_139 iw_yX0_divide vw_yX0_divide nw_RX0 cw_yX0_divide ⟨by decide +kernel, by decide +kernel, by decide +kernel⟩ ⟨hd, by decide⟩
theorem gX7_189 {l : Launch} {Z : ZT} (hZ : ZOk Z) {d : Nat} (hd : 5 ≤ d) : CallI l Z RX7 d (189, some 0, c_divX) := fun p e s m args below meth c Q cc nL x0 X => callOk_V X (imX0_divide hZ) (by decide) rfl mlX7_189 iw_yX0_divide vw_yX0_divide nw_RX0 cw_yX0_divide ⟨by decide +kernel, by decide +kernel, by decide +kernel⟩ ⟨hd, by decide⟩
