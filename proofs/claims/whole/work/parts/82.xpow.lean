/-! ===== the class: raise, commonDivisor ===== -/
/-- of the class only the rows of the calculator have changed -/
def FrK (M M' : Mem) : Prop := ∀ o, (o < 7 ∨ 20 < o) → M' o = M o
theorem FrK.rf (M : Mem) : FrK M M := fun _ _ => rfl
theorem FrK.tr {M M1 M2 : Mem} (h : FrK M M1) (h2 : FrK M1 M2) : FrK M M2 := fun o a => (h2 o a).trans (h o a)
theorem FrX.K {M M' : Mem} {r : Nat} (h : FrX M M' r) (h1 : 7 ≤ r) (h2 : r ≤ 19) : FrK M M' := fun o a => h o (by omega) (by omega)
theorem FrD.K {M M' : Mem} (h : FrD M M') : FrK M M' := fun o a => h o (by omega) (by omega) (by omega) (by omega) (by omega) (by omega) (by omega) (by omega)
abbrev isOu (r : Nat) : Prop := isRw r ∧ 20 < r
theorem isOu.In {r : Nat} (h : isOu r) : isIn r := ⟨h.1, by omega, by omega, by omega, by omega⟩
theorem FrK.keep {M M' : Mem} {s v : Nat} (h : FrK M M') (hs : isOu s) (hv : XR M s v) : XR M' s v := by
  unfold XR at *
  rw [h s (by omega), h (s + 1) (by omega)]
  exact hv
/-- raise(a, e, m) -/
def c_raise : Call := ⟨Nat × Nat × Nat × Nat × Nat × Nat, 4, (fun (a, e, m, va, ve, wm) vs M => vs = [.inr (.inr 6), .inr (.inr a), .inr (.inr e), .inr (.inr m)] ∧ isOu a ∧ isOu e ∧ isOu m ∧ XR M a va ∧ nd va ≤ 64 ∧ XR M e ve ∧ nd ve ≤ 64 ∧ XR M m wm ∧ nd wm ≤ 64 ∧ wm ≠ 0), .inl (fun (_, _, _, va, ve, wm) _ M M' => XR M' 11 (va ^ ve % wm) ∧ FrK M M')⟩
set_option maxHeartbeats 4000000 in
theorem v_raise (n : Nn) : Ver tX0_raise (fdX0, icX0, lcX0, [(95, some 0, c_divX), (71, some 5, c_copyX), (99, some 5, c_become), (102, some 5, c_bitsX), (106, some 5, c_hasBit), (110, none, c_productX)]) 0 7 n c_raise := by
  rintro ⟨a, e, m, va, ve, wm⟩ vs M0 ⟨rfl, ha, he, hm, hA0, nA, hE0, nE, hM0, nM, hm0⟩ aw run
  have hmd := fun x : Nat => nd_md (a := x) hm0
  have i11 : isIn 11 := by decide
  have i17 : isIn 17 := by decide
  have i19 : isIn 19 := by decide
  have hnb : nb ve ≤ 3000 := nb_le.mpr (by
    have := nd_lt ve
    rw [nn_pw] at this
    exact Nat.lt_of_lt_of_le this (Nat.pow_le_pow_right (by decide) (by omega)))
  have loop : ∀ (i : Nat) (M : Mem) (o5 o6 : Option AV), i ≤ nb ve → XR M 19 (va % wm) → XR M 11 (va ^ (ve / 2 ^ i) % wm) → FrK M0 M → aw 53 [some (.inr (.inr 6)), some (.inr (.inr a)), some (.inr (.inr e)), some (.inr (.inr m)), some (.inl ((i : Int) - 1)), o5, o6] [] M := by
    intro i
    induction i with
    | zero =>
      intro M o5 o6 hi hG hD hF
      refine run 60 [53] _ _ _ _ ?_
      refine And.intro ⟨⟨by omega, by omega⟩, ⟨by omega, by omega⟩⟩ (And.intro (fun _ => ?_) (fun c2 => absurd c2 (by omega)))
      rw [Nat.pow_zero, Nat.div_one] at hD
      exact Or.inl (And.intro hD hF)
    | succ i ih =>
      intro M o5 o6 hi hG hD hF
      obtain ⟨x, ex⟩ : ∃ x : Nat, x = ve / 2 ^ (i + 1) := ⟨_, rfl⟩
      have e2 : ve / 2 ^ i = 2 * x + ve / 2 ^ i % 2 := by
        rw [ex, Nat.pow_succ, ← Nat.div_div_eq_div_mul]
        omega
      rw [← ex] at hD
      obtain ⟨D, eD⟩ : ∃ D : Nat, D = va ^ x % wm := ⟨_, rfl⟩
      rw [← eD] at hD
      have nD : nd D ≤ nd wm := by rw [eD]; exact hmd _
      rw [show (((i + 1 : Nat) : Int) - 1) = (i : Int) by omega]
      have nDD := nd_pr D D
      have hsq : D * D % wm = va ^ (2 * x) % wm := by
        rw [eD, ← Nat.mul_mod, ← Nat.pow_add, Nat.two_mul]
      have sq : ∀ f : Int, 1 ≤ f → f ≤ 2 → (∀ M' : Mem, XR M' 19 (va % wm) → XR M' 11 (va ^ (2 * x) % wm) → FrK M0 M' → aw 77 [some (.inr (.inr 6)), some (.inr (.inr a)), some (.inr (.inr e)), some (.inr (.inr m)), some (.inl (i : Int)), some (.inl f), some (.inl 1)] [] M') → aw 77 [some (.inr (.inr 6)), some (.inr (.inr a)), some (.inr (.inr e)), some (.inr (.inr m)), some (.inl (i : Int)), some (.inl f), some (.inl 0)] [] M := by
        intro f hf1 hf2 hgo
        refine run 60 [77] _ _ _ _ ?_
        refine And.intro ⟨⟨by omega, by omega⟩, ⟨by omega, by omega⟩⟩ (And.intro (fun c1 => absurd c1 (by omega)) (fun _ => ?_))
        refine And.intro rfl (And.intro rfl ?_)
        refine And.intro ⟨⟨by omega, by omega⟩, ⟨by omega, by omega⟩⟩ (And.intro (fun c1 => absurd c1 (by omega)) (fun _ => ?_))
        refine And.intro rfl ⟨(17, 11, 11, D, D), ⟨rfl, by decide, by decide, by decide, by decide, by decide, hD, hD, by omega⟩, ?_⟩
        rintro M1 ⟨hX1, hF1⟩
        have f1 : FrK M0 M1 := hF.tr (hF1.K (by decide) (by decide))
        have hG1 : XR M1 19 (va % wm) := hF1.keep (by decide) (by decide) (by decide) hG
        refine And.intro rfl (And.intro rfl ⟨(17, m, D * D, wm), ⟨rfl, i17, hm.In, hX1, by omega, f1.keep hm hM0, by omega⟩, ?_⟩)
        rintro M2 ⟨-, hR2, hF2⟩
        rw [hsq] at hR2
        have n1 := hmd (va ^ (2 * x))
        refine And.intro rfl (And.intro rfl (And.intro rfl ⟨(11, 9, va ^ (2 * x) % wm), ⟨rfl, by decide, by decide, by decide, hR2, by omega⟩, ?_⟩))
        rintro M3 ⟨hX3, hF3⟩
        refine And.intro ?_ trivial
        exact hgo M3 (hF3.keep (by decide) (by decide) (by decide) (hF2.keep i19 hG1)) hX3 ((f1.tr hF2.K).tr (hF3.K (by decide) (by decide)))
      refine run 60 [53, 77] _ _ _ _ ?_
      refine And.intro ⟨⟨by omega, by omega⟩, ⟨by omega, by omega⟩⟩ (And.intro (fun c1 => absurd c1 (by omega)) (fun _ => ?_))
      refine And.intro he.1.kd ⟨(e, i, ve), ⟨rfl, he.1, by omega, hF.keep he hE0, by omega⟩, ?_⟩
      rintro y M ⟨⟨rfl, hb⟩ | ⟨rfl, hb⟩, rfl⟩
      · refine And.intro ⟨⟨by omega, by omega⟩, ⟨by omega, by omega⟩⟩ (And.intro (fun c1 => absurd c1 (by omega)) (fun _ => ?_))
        refine And.intro ?_ trivial
        refine sq 2 (by omega) (by omega) (fun M4 hG4 hD4 hF4 => ?_)
        have n1 := hmd (va ^ (2 * x))
        have n2 := hmd va
        have n3 := nd_pr (va ^ (2 * x) % wm) (va % wm)
        have hpw : va ^ (2 * x) % wm * (va % wm) % wm = va ^ (ve / 2 ^ i) % wm := by
          rw [← Nat.mul_mod, e2, hb, Nat.pow_succ]
        refine run 80 [53] _ _ _ _ ?_
        refine And.intro ⟨⟨by omega, by omega⟩, ⟨by omega, by omega⟩⟩ (And.intro (fun c1 => absurd c1 (by omega)) (fun _ => ?_))
        refine And.intro rfl (And.intro rfl ?_)
        refine And.intro ⟨⟨by omega, by omega⟩, ⟨by omega, by omega⟩⟩ (And.intro (fun _ => ?_) (fun c2 => absurd c2 (by omega)))
        refine And.intro rfl ⟨(17, 11, 19, va ^ (2 * x) % wm, va % wm), ⟨rfl, by decide, by decide, by decide, by decide, by decide, hD4, hG4, by omega⟩, ?_⟩
        rintro M5 ⟨hX5, hF5⟩
        have f5 : FrK M0 M5 := hF4.tr (hF5.K (by decide) (by decide))
        have hG5 : XR M5 19 (va % wm) := hF5.keep (by decide) (by decide) (by decide) hG4
        refine And.intro rfl (And.intro rfl ⟨(17, m, va ^ (2 * x) % wm * (va % wm), wm), ⟨rfl, i17, hm.In, hX5, by omega, f5.keep hm hM0, by omega⟩, ?_⟩)
        rintro M6 ⟨-, hR6, hF6⟩
        rw [hpw] at hR6
        have n6 := hmd (va ^ (ve / 2 ^ i))
        refine And.intro rfl (And.intro rfl (And.intro rfl ⟨(11, 9, va ^ (ve / 2 ^ i) % wm), ⟨rfl, by decide, by decide, by decide, hR6, by omega⟩, ?_⟩))
        rintro M7 ⟨hX7, hF7⟩
        refine And.intro ⟨⟨by omega, by omega⟩, ⟨by omega, by omega⟩⟩ (And.intro (fun _ => ?_) (fun c2 => absurd c2 (by omega)))
        refine And.intro ?_ trivial
        exact ih M7 _ _ (by omega) (hF7.keep (by decide) (by decide) (by decide) (hF6.keep i19 hG5)) hX7 ((f5.tr hF6.K).tr (hF7.K (by decide) (by decide)))
      · refine And.intro ⟨⟨by omega, by omega⟩, ⟨by omega, by omega⟩⟩ (And.intro (fun _ => ?_) (fun c2 => absurd c2 (by omega)))
        refine And.intro ?_ trivial
        refine sq 1 (by omega) (by omega) (fun M4 hG4 hD4 hF4 => ?_)
        refine run 80 [53] _ _ _ _ ?_
        refine And.intro ⟨⟨by omega, by omega⟩, ⟨by omega, by omega⟩⟩ (And.intro (fun _ => ?_) (fun c2 => absurd c2 (by omega)))
        refine And.intro ?_ trivial
        refine ih M4 _ _ (by omega) hG4 ?_ hF4
        rw [e2, hb]
        exact hD4
  change aw 0 [some (.inr (.inr 6)), some (.inr (.inr a)), some (.inr (.inr e)), some (.inr (.inr m)), none, none, none] [] M0
  refine run 60 [53] _ _ _ _ ?_
  refine And.intro rfl ⟨(a, m, va, wm), ⟨rfl, ha.In, hm.In, hA0, by omega, hM0, by omega⟩, ?_⟩
  rintro M1 ⟨-, hR1, hF1⟩
  have n1 := hmd va
  have n2 := hmd 1
  refine And.intro rfl (And.intro rfl (And.intro rfl ⟨(19, 9, va % wm), ⟨rfl, by decide, by decide, by decide, hR1, by omega⟩, ?_⟩))
  rintro M2 ⟨hX2, hF2⟩
  refine And.intro rfl (And.intro rfl ⟨(11, 1), ⟨rfl, by decide, by decide⟩, ?_⟩)
  rintro M3 ⟨hX3, hF3⟩
  have f3 : FrK M0 M3 := (hF1.K.tr (hF2.K (by decide) (by decide))).tr (hF3.K (by decide) (by decide))
  have hG3 : XR M3 19 (va % wm) := hF3.keep (by decide) (by decide) (by decide) hX2
  refine And.intro rfl (And.intro rfl ⟨(11, m, 1, wm), ⟨rfl, i11, hm.In, hX3, by rw [nd_1]; decide, f3.keep hm hM0, by omega⟩, ?_⟩)
  rintro M4 ⟨-, hR4, hF4⟩
  refine And.intro rfl (And.intro rfl (And.intro rfl ⟨(11, 9, 1 % wm), ⟨rfl, by decide, by decide, by decide, hR4, by omega⟩, ?_⟩))
  rintro M5 ⟨hX5, hF5⟩
  have f5 : FrK M0 M5 := (f3.tr hF4.K).tr (hF5.K (by decide) (by decide))
  refine And.intro he.1.kd ⟨(e, ve), ⟨rfl, he.1, f5.keep he hE0, by omega⟩, ?_⟩
  rintro x M5 ⟨rfl, rfl⟩
  refine And.intro ?_ trivial
  refine loop (nb ve) M5 _ _ (Nat.le_refl _) (hF5.keep (by decide) (by decide) (by decide) (hF4.keep i19 hG3)) ?_ f5
  rw [Nat.div_eq_of_lt (nb_le.mp (Nat.le_refl _)), Nat.pow_zero]
  exact hX5
theorem imX0_raise {l : Launch} {Z : ZT} (hZ : ZOk Z) : Impl l Z yX0_raise cX0_raise 7 none 5 c_raise := mkImpl (rt := 0) (CL := [(95, some 0, c_divX), (71, some 5, c_copyX), (99, some 5, c_become), (102, some 5, c_bitsX), (106, some 5, c_hasBit), (110, none, c_productX)]) hZ.1 hZ.2.1 (by decide +kernel) kX0_raise fwX0 iwX0 lwX0 trivial (Nat.le_of_ble_eq_true rfl) (List.forall_mem_cons.mpr ⟨gX0_95 hZ (by decide), List.forall_mem_cons.mpr ⟨gX0_71 hZ (by decide), List.forall_mem_cons.mpr ⟨gX0_99 hZ (by decide), List.forall_mem_cons.mpr ⟨gX0_102 hZ (by decide), List.forall_mem_cons.mpr ⟨gX0_106 hZ (by decide), List.forall_mem_cons.mpr ⟨gX0_110 hZ (by decide), fun q h => absurd h List.not_mem_nil⟩⟩⟩⟩⟩⟩) ((v_raise _))
theorem gX2_129 {l : Launch} {Z : ZT} (hZ : ZOk Z) {d : Nat} (hd : 6 ≤ d) : CallI l Z RX2 d (129, some 0, c_raise) := fun p e s m args below meth c Q cc nL x0 X => callOk_V X (imX0_raise hZ) (by decide) rfl mlX2_129 iw_yX0_raise vw_yX0_raise nw_RX0 cw_yX0_raise ⟨by decide +kernel, by decide +kernel, by decide +kernel⟩ ⟨hd, by decide⟩
theorem gX7_215 {l : Launch} {Z : ZT} (hZ : ZOk Z) {d : Nat} (hd : 6 ≤ d) : CallI l Z RX7 d (215, some 0, c_raise) := fun p e s m args below meth c Q cc nL x0 X => callOk_V X (imX0_raise hZ) (by decide) rfl mlX7_215 iw_yX0_raise vw_yX0_raise nw_RX0 cw_yX0_raise ⟨by decide +kernel, by decide +kernel, by decide +kernel⟩ ⟨hd, by decide⟩
/-- r of Euclid's steps are enough -/
def Eu (r x y : Nat) : Prop := (y ≤ x ∧ x * y < 2 ^ r) ∨ x * y * 2 + 1 < 2 ^ r
theorem Eu.z {x y : Nat} (h : Eu 0 x y) : y = 0 := by
  rcases h with ⟨h1, h2⟩ | h
  · rw [Nat.pow_zero] at h2
    refine Nat.eq_zero_of_not_pos (fun c => ?_)
    have := Nat.mul_pos (show 0 < x by omega) c
    omega
  · rw [Nat.pow_zero] at h
    omega
theorem Eu.s {r x y : Nat} (h : Eu (r + 1) x y) (hy : y ≠ 0) : Eu r y (x % y) := by
  have hm := Nat.mod_lt x (Nat.pos_of_ne_zero hy)
  refine Or.inl ⟨Nat.le_of_lt hm, ?_⟩
  rcases h with ⟨h1, h2⟩ | h
  · have h3 : 2 * (x % y) ≤ x := by
      have h4 := Nat.div_add_mod x y
      have h5 : 1 ≤ x / y := (Nat.le_div_iff_mul_le (Nat.pos_of_ne_zero hy)).mpr (by omega)
      have h6 := Nat.mul_le_mul_left y h5
      omega
    have h7 := Nat.mul_le_mul_left y h3
    have e1 : y * (2 * (x % y)) = 2 * (y * (x % y)) := by grind
    rw [Nat.pow_succ, Nat.mul_comm x] at h2
    omega
  · have h3 := Nat.mul_le_mul_left y (Nat.mod_le x y)
    rw [Nat.pow_succ, Nat.mul_comm x] at h
    omega
theorem Eu.le {r x y z : Nat} (h : Eu r x y) (hz : z ≤ y) : Eu r x z := by
  have h3 := Nat.mul_le_mul_left x hz
  rcases h with ⟨h1, h2⟩ | h
  · exact Or.inl ⟨by omega, by omega⟩
  · exact Or.inr (by omega)
theorem Eu.st {x y : Nat} (hx : nd x ≤ 64) (hy : nd y ≤ 64) : Eu 2000 x y := by
  refine Or.inr ?_
  have h1 := nd_le.mp hx
  have h2 := nd_le.mp hy
  have h3 := Nat.mul_lt_mul'' h1 h2
  rw [nn_pw, ← Nat.pow_add, show 15 * 64 + 15 * 64 = 1920 from rfl] at h3
  have h4 : 2 ^ 1922 ≤ 2 ^ 2000 := Nat.pow_le_pow_right (by decide) (by decide)
  have h5 : 2 ^ 1922 = 2 ^ 1920 * 4 := by rw [show 1922 = 1920 + 2 from rfl, Nat.pow_add]
  generalize 2 ^ 1920 = q at *
  generalize 2 ^ 1922 = q2 at *
  generalize 2 ^ 2000 = q3 at *
  omega
/-- commonDivisor(a, b) -/
def c_comD : Call := ⟨Nat × Nat × Nat × Nat, 3, (fun (a, b, v, w) vs M => vs = [.inr (.inr 6), .inr (.inr a), .inr (.inr b)] ∧ isOu a ∧ isOu b ∧ XR M a v ∧ nd v ≤ 64 ∧ XR M b w ∧ nd w ≤ 64), .inl (fun (_, _, v, w) _ M M' => XR M' 11 (Nat.gcd v w) ∧ FrK M M')⟩
theorem v_comD (n : Nn) : Ver tX0_commonDivisor (fdX0, icX0, lcX0, [(95, some 0, c_divX), (71, some 5, c_copyX)]) 0 4 n c_comD := by
  rintro ⟨a, b, v, w⟩ vs M0 ⟨rfl, ha, hb, hA, nA, hB, nB⟩ aw run
  have i11 : isIn 11 := by decide
  have i19 : isIn 19 := by decide
  have loop : ∀ (r k x y : Nat) (M : Mem), k + r ≤ 10000 → Eu r x y → Nat.gcd x y = Nat.gcd v w → nd x ≤ 64 → nd y ≤ 64 → XR M 11 x → XR M 19 y → FrK M0 M → aw 18 [some (.inr (.inr 6)), some (.inr (.inr a)), some (.inr (.inr b)), some (.inl (k : Int))] [] M := by
    intro r
    induction r with
    | zero =>
      intro k x y M hk hE hg nx ny hX hY hF
      have y0 := hE.z
      subst y0
      have hY1 : M 19 1 = 0 := hY.1
      rw [Nat.gcd_zero_right] at hg
      rw [hg] at hX
      refine run 60 [18] _ _ _ _ ?_
      refine And.intro ⟨⟨by omega, by omega⟩, ⟨by omega, by omega⟩⟩ (And.intro (fun c1 => ?_) (fun c2 => ?_))
      · exact Or.inl ⟨hX, hF⟩
      refine And.intro rfl (And.intro rfl ?_)
      conv => whnf
      rw [hY1]
      refine And.intro ⟨⟨by omega, by omega⟩, ⟨by omega, by omega⟩⟩ (And.intro (fun _ => ?_) (fun c2 => absurd c2 (by omega)))
      exact Or.inl ⟨hX, hF⟩
    | succ r ih =>
      intro k x y M hk hE hg nx ny hX hY hF
      have hY1 : M 19 1 = (nd y : Int) := hY.1
      refine run 60 [18] _ _ _ _ ?_
      refine And.intro ⟨⟨by omega, by omega⟩, ⟨by omega, by omega⟩⟩ (And.intro (fun c1 => absurd c1 (by omega)) (fun _ => ?_))
      refine And.intro rfl (And.intro rfl ?_)
      conv => whnf
      rw [hY1]
      refine And.intro ⟨⟨by omega, by omega⟩, ⟨by omega, by omega⟩⟩ (And.intro (fun c1 => ?_) (fun c2 => ?_))
      · have y0 : y = 0 := nd_z.mp (by omega)
        subst y0
        rw [Nat.gcd_zero_right] at hg
        rw [hg] at hX
        exact Or.inl ⟨hX, hF⟩
      have y0 : y ≠ 0 := fun z => by rw [z, nd_0] at c2; omega
      have nr := nd_md (a := x) y0
      refine And.intro rfl (And.intro rfl (And.intro rfl ⟨(11, 19, x, y), ⟨rfl, i11, i19, hX, by omega, hY, by omega⟩, ?_⟩))
      rintro M1 ⟨-, hR1, hF1⟩
      refine And.intro rfl (And.intro rfl (And.intro rfl ⟨(11, 19, y), ⟨rfl, by decide, by decide, by decide, hF1.keep i19 hY, by omega⟩, ?_⟩))
      rintro M2 ⟨hX2, hF2⟩
      refine And.intro rfl (And.intro rfl (And.intro rfl ⟨(19, 9, x % y), ⟨rfl, by decide, by decide, by decide, hF2.keep (by decide) (by decide) (by decide) hR1, by omega⟩, ?_⟩))
      rintro M3 ⟨hX3, hF3⟩
      refine And.intro ?_ trivial
      rw [show (k : Int) + 1 = ((k + 1 : Nat) : Int) by omega]
      refine ih (k + 1) y (x % y) M3 (by omega) (hE.s y0) ?_ ny (by omega) (hF3.keep (by decide) (by decide) (by decide) hX2) hX3 (((hF.tr hF1.K).tr (hF2.K (by decide) (by decide))).tr (hF3.K (by decide) (by decide)))
      rw [← hg, Nat.gcd_comm x y, Nat.gcd_rec y x, Nat.gcd_comm]
  change aw 0 [some (.inr (.inr 6)), some (.inr (.inr a)), some (.inr (.inr b)), none] [] M0
  refine run 60 [18] _ _ _ _ ?_
  refine And.intro rfl (And.intro rfl ⟨(11, a, v), ⟨rfl, by decide, ha.1, by omega, hA, by omega⟩, ?_⟩)
  rintro M1 ⟨hX1, hF1⟩
  refine And.intro rfl (And.intro rfl ⟨(19, b, w), ⟨rfl, by decide, hb.1, by omega, hF1.keep (by decide) hb.1 (by omega) hB, by omega⟩, ?_⟩)
  rintro M2 ⟨hX2, hF2⟩
  refine And.intro ?_ trivial
  exact loop 2000 0 v w M2 (by omega) (Eu.st nA nB) rfl nA nB (hF2.keep (by decide) (by decide) (by decide) hX1) hX2 ((hF1.K (by decide) (by decide)).tr (hF2.K (by decide) (by decide)))
theorem imX0_commonDivisor {l : Launch} {Z : ZT} (hZ : ZOk Z) : Impl l Z yX0_commonDivisor cX0_commonDivisor 4 none 5 c_comD := mkImpl (rt := 0) (CL := [(95, some 0, c_divX), (71, some 5, c_copyX)]) hZ.1 hZ.2.1 (by decide +kernel) kX0_commonDivisor fwX0 iwX0 lwX0 trivial (Nat.le_of_ble_eq_true rfl) (List.forall_mem_cons.mpr ⟨gX0_95 hZ (by decide), List.forall_mem_cons.mpr ⟨gX0_71 hZ (by decide), fun q h => absurd h List.not_mem_nil⟩⟩) ((v_comD _))
theorem gX7_221 {l : Launch} {Z : ZT} (hZ : ZOk Z) {d : Nat} (hd : 6 ≤ d) : CallI l Z RX7 d (221, some 0, c_comD) := fun p e s m args below meth c Q cc nL x0 X => callOk_V X (imX0_commonDivisor hZ) (by decide) rfl mlX7_221 iw_yX0_commonDivisor vw_yX0_commonDivisor nw_RX0 cw_yX0_commonDivisor ⟨by decide +kernel, by decide +kernel, by decide +kernel⟩ ⟨hd, by decide⟩
