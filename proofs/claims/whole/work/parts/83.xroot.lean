/-! ===== the class: squareRoot, jacobiSymbol ===== -/
theorem nw_ge {v x : Nat} (hx : x ≠ 0) (h : sqF v ≤ x) : sqF v ≤ (v / x + x) / 2 := by
  have s1 := (sqF_sq v).1
  obtain ⟨d, rfl⟩ : ∃ d, x = sqF v + d := ⟨x - sqF v, by omega⟩
  generalize sqF v = s at *
  rw [Nat.le_div_iff_mul_le (by decide)]
  refine Nat.le_of_not_lt (fun c => ?_)
  have h1 := Nat.lt_mul_div_succ v (Nat.pos_of_ne_zero hx)
  generalize v / (s + d) = q at *
  obtain ⟨e, he⟩ : ∃ e, s = d + e := ⟨s - d, by omega⟩
  subst he
  have h2 : q + 1 ≤ e := by omega
  have h3 := Nat.mul_le_mul_left (d + e + d) h2
  have e1 : (d + e) * (d + e) = d * d + 2 * (d * e) + e * e := by grind
  have e2 : (d + e + d) * e = 2 * (d * e) + e * e := by grind
  generalize d * e = z1 at *
  generalize e * e = z2 at *
  generalize d * d = z3 at *
  omega
theorem nw_eq {v x : Nat} (hx : x ≠ 0) (h : sqF v ≤ x) (c : x ≤ (v / x + x) / 2) : x = sqF v := by
  refine Nat.le_antisymm (sqF_le.mpr ?_) h
  have : x ≤ v / x := by omega
  exact (Nat.le_div_iff_mul_le (Nat.pos_of_ne_zero hx)).mp this
theorem nw_lt {v x : Nat} (h : sqF v < x) : (v / x + x) / 2 - sqF v ≤ (x - sqF v) / 2 := by
  have s2 := (sqF_sq v).2
  have h1 : v / x < sqF v + 1 := by
    rw [Nat.div_lt_iff_lt_mul (by omega)]
    exact Nat.lt_of_lt_of_le s2 (Nat.mul_le_mul_left _ h)
  omega
theorem nw_0 {v : Nat} (h : v ≠ 0) : sqF v ≠ 0 := by
  have := sqF_le (t := 1) (v := v)
  omega
/-- squareRoot(a) -/
def c_sqR : Call := ⟨Nat × Nat, 2, (fun (a, v) vs M => vs = [.inr (.inr 6), .inr (.inr a)] ∧ isOu a ∧ XR M a v ∧ nd v ≤ 64), .inl (fun (_, v) _ M M' => XR M' 11 (sqF v) ∧ FrK M M')⟩
set_option maxHeartbeats 4000000 in
theorem v_sqR (n : Nn) : Ver tX0_squareRoot (fdX0, icX0, lcX0, [(99, some 5, c_become), (102, some 5, c_bitsX), (78, none, c_shiftUp), (95, some 0, c_divX), (114, none, c_sumX), (92, none, c_shiftDown), (67, none, c_order), (71, some 5, c_copyX)]) 0 3 n c_sqR := by
  rintro ⟨a, v⟩ vs M0 ⟨rfl, ha, hA, nA⟩ aw run
  have i11 : isIn 11 := by decide
  have hA1 : M0 a 1 = (nd v : Int) := hA.1
  have loop : ∀ (r k x : Nat) (M : Mem), k + r < 10000 → sqF v ≤ x → x - sqF v < 2 ^ r → (v ≠ 0 → x ≠ 0) → (v = 0 → x = 0) → nd x ≤ 64 → XR M 11 x → FrK M0 M → aw 40 [some (.inr (.inr 6)), some (.inr (.inr a)), some (.inl (k : Int))] [] M := by
    intro r
    induction r with
    | zero =>
      intro k x M hk hs hr hx0 hx1 nx hX hF
      rw [Nat.pow_zero] at hr
      have ex : x = sqF v := by omega
      have nq : nd (v / x) ≤ nd v := nd_mono (Nat.div_le_self _ _)
      refine run 60 [40] _ _ _ _ ?_
      refine And.intro ⟨⟨by omega, by omega⟩, ⟨by omega, by omega⟩⟩ (And.intro (fun c1 => absurd c1 (by omega)) (fun _ => ?_))
      refine And.intro rfl (And.intro rfl ⟨(a, 11, v, x), ⟨rfl, ha.In, i11, hF.keep ha hA, by omega, hX, by omega⟩, ?_⟩)
      rintro M1 ⟨hQ1, -, hF1⟩
      have hX1 := hF1.keep i11 hX
      have ns : nd (v / x + x) ≤ 65 := nd_le.mpr (cyA_top (n := 64) (by omega) nx).2
      refine And.intro rfl (And.intro rfl (And.intro rfl ⟨(19, 7, 11, v / x, x), ⟨rfl, by decide, by decide, by decide, by decide, hQ1, by omega, hX1, by omega⟩, ?_⟩))
      rintro M2 ⟨hS2, hF2⟩
      refine And.intro rfl (And.intro rfl ⟨(19, 19, 1, v / x + x), ⟨rfl, by decide, by decide, by omega, hS2, by omega⟩, ?_⟩)
      rintro M3 ⟨hS3, hF3⟩
      rw [Nat.pow_one] at hS3
      have hX3 := hF3.keep (by decide) (by decide) (by decide) (hF2.keep (by decide) (by decide) (by decide) hX1)
      have nh : nd ((v / x + x) / 2) ≤ nd (v / x + x) := nd_mono (Nat.div_le_self _ _)
      refine And.intro rfl (And.intro rfl ⟨(19, 11, (v / x + x) / 2, x), ⟨rfl, by decide, by decide, hS3, by omega, hX3, by omega⟩, ?_⟩)
      rintro o M3 ⟨rfl, rfl⟩
      have hge : x ≤ (v / x + x) / 2 := by
        by_cases c : v = 0
        · rw [hx1 c]
          exact Nat.zero_le _
        · rw [ex]
          exact nw_ge (nw_0 c) (Nat.le_refl _)
      have := cm3_cases ((v / x + x) / 2) x
      refine And.intro ⟨⟨by omega, by omega⟩, ⟨by omega, by omega⟩⟩ (And.intro (fun c1 => absurd c1 (by omega)) (fun _ => ?_))
      rw [ex] at hX3
      exact Or.inl ⟨hX3, ((hF.tr hF1.K).tr (hF2.K (by decide) (by decide))).tr (hF3.K (by decide) (by decide))⟩
    | succ r ih =>
      intro k x M hk hs hr hx0 hx1 nx hX hF
      have nq : nd (v / x) ≤ nd v := nd_mono (Nat.div_le_self _ _)
      refine run 60 [40] _ _ _ _ ?_
      refine And.intro ⟨⟨by omega, by omega⟩, ⟨by omega, by omega⟩⟩ (And.intro (fun c1 => absurd c1 (by omega)) (fun _ => ?_))
      refine And.intro rfl (And.intro rfl ⟨(a, 11, v, x), ⟨rfl, ha.In, i11, hF.keep ha hA, by omega, hX, by omega⟩, ?_⟩)
      rintro M1 ⟨hQ1, -, hF1⟩
      have hX1 := hF1.keep i11 hX
      have ns : nd (v / x + x) ≤ 65 := nd_le.mpr (cyA_top (n := 64) (by omega) nx).2
      refine And.intro rfl (And.intro rfl (And.intro rfl ⟨(19, 7, 11, v / x, x), ⟨rfl, by decide, by decide, by decide, by decide, hQ1, by omega, hX1, by omega⟩, ?_⟩))
      rintro M2 ⟨hS2, hF2⟩
      refine And.intro rfl (And.intro rfl ⟨(19, 19, 1, v / x + x), ⟨rfl, by decide, by decide, by omega, hS2, by omega⟩, ?_⟩)
      rintro M3 ⟨hS3, hF3⟩
      rw [Nat.pow_one] at hS3
      have hX3 := hF3.keep (by decide) (by decide) (by decide) (hF2.keep (by decide) (by decide) (by decide) hX1)
      have nh : nd ((v / x + x) / 2) ≤ nd (v / x + x) := nd_mono (Nat.div_le_self _ _)
      have f3 : FrK M0 M3 := ((hF.tr hF1.K).tr (hF2.K (by decide) (by decide))).tr (hF3.K (by decide) (by decide))
      refine And.intro rfl (And.intro rfl ⟨(19, 11, (v / x + x) / 2, x), ⟨rfl, by decide, by decide, hS3, by omega, hX3, by omega⟩, ?_⟩)
      rintro o M3 ⟨rfl, rfl⟩
      have hcm := cm3_cases ((v / x + x) / 2) x
      by_cases c : x ≤ (v / x + x) / 2
      · refine And.intro ⟨⟨by omega, by omega⟩, ⟨by omega, by omega⟩⟩ (And.intro (fun c1 => absurd c1 (by omega)) (fun _ => ?_))
        have ex : x = sqF v := by
          by_cases c0 : v = 0
          · have := hx1 c0
            omega
          · exact nw_eq (hx0 c0) hs c
        rw [ex] at hX3
        exact Or.inl ⟨hX3, f3⟩
      · refine And.intro ⟨⟨by omega, by omega⟩, ⟨by omega, by omega⟩⟩ (And.intro (fun _ => ?_) (fun c2 => absurd c2 (by omega)))
        have v0 : v ≠ 0 := fun z => c (by rw [hx1 z]; exact Nat.zero_le _)
        have hlt : sqF v < x := by
          refine Nat.lt_of_le_of_ne hs (fun z => c ?_)
          have := nw_ge (v := v) (hx0 v0) hs
          omega
        have g1 := nw_ge (v := v) (hx0 v0) hs
        have g2 := nw_lt hlt
        have s0 := nw_0 v0
        rw [Nat.pow_succ] at hr
        generalize (v / x + x) / 2 = y at *
        have ny : nd y ≤ nd x := nd_mono (by omega)
        refine And.intro rfl (And.intro rfl (And.intro rfl ⟨(11, 19, y), ⟨rfl, by decide, by decide, by decide, hS3, by omega⟩, ?_⟩))
        rintro M4 ⟨hX4, hF4⟩
        refine And.intro ?_ trivial
        rw [show (k : Int) + 1 = ((k + 1 : Nat) : Int) by omega]
        exact ih (k + 1) y M4 (by omega) g1 (by omega) (fun _ => by omega) (fun z => absurd z v0) (by omega) hX4 (f3.tr (hF4.K (by decide) (by decide)))
  have go : ∀ u : Nat, (v = 0 → u = 0) → (v ≠ 0 → u = 1) → aw 16 [some (.inr (.inr 6)), some (.inr (.inr a)), none] [.inl (u : Int), .inr (.inr 11)] M0 := by
    intro u hu0 hu1
    have hu : u < 2 := by
      by_cases c : v = 0
      · rw [hu0 c]; decide
      · rw [hu1 c]; decide
    refine run 60 [40] _ _ _ _ ?_
    refine And.intro rfl ⟨(11, u), ⟨rfl, by decide, by omega⟩, ?_⟩
    rintro M1 ⟨hX1, hF1⟩
    have f1 : FrK M0 M1 := hF1.K (by decide) (by decide)
    refine And.intro rfl (And.intro rfl (And.intro ha.1.kd ⟨(a, v), ⟨rfl, ha.1, f1.keep ha hA, by omega⟩, ?_⟩))
    rintro b M1 ⟨rfl, rfl⟩
    have hnb : nb v ≤ 960 := nb_le.mpr (by
      have := nd_lt v
      rw [nn_pw] at this
      exact Nat.lt_of_lt_of_le this (Nat.pow_le_pow_right (by decide) (by omega)))
    refine And.intro ⟨by omega, by omega, ⟨by omega, by omega⟩, ⟨by omega, by omega⟩⟩ ?_
    conv => whnf
    obtain ⟨h, eh⟩ : ∃ h, h = (nb v + 1) / 2 := ⟨_, rfl⟩
    rw [show ((nb v : Int) + 1) / 2 = (h : Int) by omega]
    have nu : nd u ≤ 1 := nd_le.mpr (by rw [Nat.pow_one]; omega)
    refine ⟨(11, 11, h, u), ⟨rfl, by decide, by decide, by omega, hX1, by omega⟩, ?_⟩
    rintro M2 ⟨hX2, -, hF2⟩
    refine And.intro ?_ trivial
    have f2 : FrK M0 M2 := f1.tr (hF2.K (by decide) (by decide))
    by_cases c : v = 0
    · rw [hu0 c, Nat.zero_mul] at hX2
      refine loop 0 0 0 M2 (by omega) ?_ ?_ (fun z => absurd c z) (fun _ => rfl) (by rw [nd_0]; omega) hX2 f2
      · rw [c]
        decide
      · rw [c]
        decide
    · rw [hu1 c, Nat.one_mul] at hX2
      have hp : 0 < 2 ^ h := Nat.pow_pos (by decide)
      have hl : v < 2 ^ h * 2 ^ h := by
        rw [← Nat.pow_add]
        exact nb_le.mp (by omega)
      have h3 := sqF_lt.mpr hl
      have h4 : 2 ^ h ≤ 2 ^ 480 := Nat.pow_le_pow_right (by decide) (by omega)
      refine loop 480 0 (2 ^ h) M2 (by omega) (by omega) ?_ (fun _ => by omega) (fun z => absurd z c) ?_ hX2 f2
      · have s0 := nw_0 c
        generalize 2 ^ 480 = q at *
        omega
      · refine nd_le.mpr ?_
        rw [nn_pw]
        exact Nat.pow_lt_pow_right (by decide) (by omega)
  change aw 0 [some (.inr (.inr 6)), some (.inr (.inr a)), none] [] M0
  refine run 60 [16] _ _ _ _ ?_
  refine And.intro rfl (And.intro ha.1.kd ?_)
  conv => whnf
  rw [hA1]
  refine And.intro ⟨⟨by omega, by omega⟩, ⟨by omega, by omega⟩⟩ (And.intro (fun c1 => ?_) (fun c2 => ?_))
  · refine And.intro ?_ trivial
    exact go 1 (fun z => by rw [z, nd_0] at c1; omega) (fun _ => rfl)
  · refine And.intro ?_ trivial
    exact go 0 (fun _ => rfl) (fun z => absurd (nd_z.mp (by omega)) z)
theorem imX0_squareRoot {l : Launch} {Z : ZT} (hZ : ZOk Z) : Impl l Z yX0_squareRoot cX0_squareRoot 3 none 5 c_sqR := mkImpl (rt := 0) (CL := [(99, some 5, c_become), (102, some 5, c_bitsX), (78, none, c_shiftUp), (95, some 0, c_divX), (114, none, c_sumX), (92, none, c_shiftDown), (67, none, c_order), (71, some 5, c_copyX)]) hZ.1 hZ.2.1 (by decide +kernel) kX0_squareRoot fwX0 iwX0 lwX0 trivial (Nat.le_of_ble_eq_true rfl) (List.forall_mem_cons.mpr ⟨gX0_99 hZ (by decide), List.forall_mem_cons.mpr ⟨gX0_102 hZ (by decide), List.forall_mem_cons.mpr ⟨gX0_78 hZ (by decide), List.forall_mem_cons.mpr ⟨gX0_95 hZ (by decide), List.forall_mem_cons.mpr ⟨gX0_114 hZ (by decide), List.forall_mem_cons.mpr ⟨gX0_92 hZ (by decide), List.forall_mem_cons.mpr ⟨gX0_67 hZ (by decide), List.forall_mem_cons.mpr ⟨gX0_71 hZ (by decide), fun q h => absurd h List.not_mem_nil⟩⟩⟩⟩⟩⟩⟩⟩) ((v_sqR _))
theorem gX7_224 {l : Launch} {Z : ZT} (hZ : ZOk Z) {d : Nat} (hd : 6 ≤ d) : CallI l Z RX7 d (224, some 0, c_sqR) := fun p e s m args below meth c Q cc nL x0 X => callOk_V X (imX0_squareRoot hZ) (by decide) rfl mlX7_224 iw_yX0_squareRoot vw_yX0_squareRoot nw_RX0 cw_yX0_squareRoot ⟨by decide +kernel, by decide +kernel, by decide +kernel⟩ ⟨hd, by decide⟩
theorem od_ex : ∀ v : Nat, v ≠ 0 → ∃ w t, v = (2 * w + 1) * 2 ^ t := by
  intro v
  induction v using Nat.strongRecOn with
  | ind v ih =>
    intro h
    by_cases c : v % 2 = 0
    · obtain ⟨w, t, e⟩ := ih (v / 2) (by omega) (by omega)
      refine ⟨w, t + 1, ?_⟩
      rw [Nat.pow_succ, ← Nat.mul_assoc, ← e]
      omega
    · exact ⟨v / 2, 0, by rw [Nat.pow_zero]; omega⟩
theorem jl_tw (B w : Nat) : ∀ (t : Nat) (s : Int), jl s ((2 * w + 1) * 2 ^ t) B = jl (if t % 2 = 1 ∧ (B % 8 = 3 ∨ B % 8 = 5) then -s else s) (2 * w + 1) B := by
  intro t
  induction t with
  | zero =>
    intro s
    rw [Nat.pow_zero, Nat.mul_one, if_neg (by omega)]
  | succ t ih =>
    intro s
    have hp : 0 < 2 ^ t := Nat.pow_pos (by decide)
    have e1 : (2 * w + 1) * 2 ^ (t + 1) = 2 * ((2 * w + 1) * 2 ^ t) := by rw [Nat.pow_succ]; grind
    have e2 : 0 < (2 * w + 1) * 2 ^ t := Nat.mul_pos (by omega) hp
    rw [e1]
    rw [jl_e (by omega) (by omega), show 2 * ((2 * w + 1) * 2 ^ t) / 2 = (2 * w + 1) * 2 ^ t by omega, ih]
    congr 1
    by_cases c : B % 8 = 3 ∨ B % 8 = 5
    · rw [if_pos c]
      by_cases d : t % 2 = 1
      · rw [if_pos ⟨d, c⟩, if_neg (by omega), Int.neg_neg]
      · rw [if_neg (by omega), if_pos ⟨by omega, c⟩]
    · rw [if_neg c, if_neg (fun z => c z.2), if_neg (fun z => c z.2)]
/-- jacobiSymbol(a, m) -/
def c_jacS : Call := ⟨Nat × Nat × Nat × Nat, 3, (fun (a, m, v, w) vs M => vs = [.inr (.inr 6), .inr (.inr a), .inr (.inr m)] ∧ isOu a ∧ isOu m ∧ XR M a v ∧ nd v ≤ 64 ∧ XR M m w ∧ nd w ≤ 64 ∧ w ≠ 0), .inr (fun (_, _, v, w) _ M x M' => x = jcV v w - 1 ∧ FrK M M')⟩
set_option maxHeartbeats 4000000 in
theorem v_jacS (n : Nn) : Ver tX0_jacobiSymbol (fdX0, icX0, lcX0, [(95, some 0, c_divX), (71, some 5, c_copyX), (117, some 5, c_tzX), (92, none, c_shiftDown), (50, some 5, c_limbAt), (120, some 5, c_isOneX)]) 1 7 n c_jacS := by
  rintro ⟨a, m, v, w⟩ vs M0 ⟨rfl, ha, hm, hA, nA, hW, nW, hw0⟩ aw run
  have i11 : isIn 11 := by decide
  have i19 : isIn 19 := by decide
  have fin : ∀ (s : Int) (B : Nat) (M : Mem) (o4 o5 o6 : Option AV), (s = 1 ∨ s = -1) → nd B ≤ 64 → XR M 11 B → (s, B) = jl 1 (v % w) w → FrK M0 M → aw 171 [some (.inr (.inr 6)), some (.inr (.inr a)), some (.inr (.inr m)), some (.inl s), o4, o5, o6] [] M := by
    intro s B M o4 o5 o6 hs nB hB hj hF
    have ej : jcV v w = if B = 1 then 1 + s else 1 := by
      unfold jcV
      rw [← hj]
    refine run 60 [] _ _ _ _ ?_
    refine And.intro rfl (And.intro rfl ⟨(11, B), ⟨rfl, by decide, hB, by omega⟩, ?_⟩)
    rintro x M ⟨⟨rfl, hb⟩ | ⟨rfl, hb⟩, rfl⟩
    · refine And.intro ⟨⟨by omega, by omega⟩, ⟨by omega, by omega⟩⟩ (And.intro (fun c1 => absurd c1 (by omega)) (fun _ => ?_))
      refine Or.inl ⟨?_, hF⟩
      show s = jcV v w - 1
      rw [ej, if_pos hb]
      omega
    · refine And.intro ⟨⟨by omega, by omega⟩, ⟨by omega, by omega⟩⟩ (And.intro (fun _ => ?_) (fun c2 => absurd c2 (by omega)))
      refine Or.inl ⟨?_, hF⟩
      show 0 = jcV v w - 1
      rw [ej, if_neg hb]
      omega
  have loop : ∀ (r k : Nat) (s : Int) (A B : Nat) (M : Mem) (o5 o6 : Option AV), k + r ≤ 10000 → Eu r B A → (s = 1 ∨ s = -1) → jl s A B = jl 1 (v % w) w → nd A ≤ 64 → nd B ≤ 64 → XR M 11 B → XR M 19 A → FrK M0 M → aw 30 [some (.inr (.inr 6)), some (.inr (.inr a)), some (.inr (.inr m)), some (.inl s), some (.inl (k : Int)), o5, o6] [] M := by
    intro r
    induction r with
    | zero =>
      intro k s A B M o5 o6 hk hE hs hj nA2 nB hB hA2 hF
      have y0 := hE.z
      subst y0
      have hY1 : M 19 1 = 0 := hA2.1
      rw [jl_0] at hj
      refine run 60 [30, 171] _ _ _ _ ?_
      refine And.intro ⟨⟨by omega, by omega⟩, ⟨by omega, by omega⟩⟩ (And.intro (fun c1 => ?_) (fun c2 => ?_))
      · exact And.intro (fin s B M _ _ _ hs nB hB hj hF) trivial
      refine And.intro rfl (And.intro rfl ?_)
      conv => whnf
      rw [hY1]
      refine And.intro ⟨⟨by omega, by omega⟩, ⟨by omega, by omega⟩⟩ (And.intro (fun _ => ?_) (fun c2 => absurd c2 (by omega)))
      exact And.intro (fin s B M _ _ _ hs nB hB hj hF) trivial
    | succ r ih =>
      intro k s A B M o5 o6 hk hE hs hj nA2 nB hB hA2 hF
      have hY1 : M 19 1 = (nd A : Int) := hA2.1
      refine run 60 [30, 106, 171] _ _ _ _ ?_
      refine And.intro ⟨⟨by omega, by omega⟩, ⟨by omega, by omega⟩⟩ (And.intro (fun c1 => absurd c1 (by omega)) (fun _ => ?_))
      refine And.intro rfl (And.intro rfl ?_)
      conv => whnf
      rw [hY1]
      refine And.intro ⟨⟨by omega, by omega⟩, ⟨by omega, by omega⟩⟩ (And.intro (fun c1 => ?_) (fun c2 => ?_))
      · have y0 : A = 0 := nd_z.mp (by omega)
        subst y0
        rw [jl_0] at hj
        exact And.intro (fin s B M _ _ _ hs nB hB hj hF) trivial
      have A0 : A ≠ 0 := fun z => by rw [z, nd_0] at c2; omega
      obtain ⟨u, t, eA⟩ := od_ex A A0
      rw [eA, jl_tw, jl_o (by omega) (by omega)] at hj
      have hp : 0 < 2 ^ t := Nat.pow_pos (by decide)
      have ediv : A / 2 ^ t = 2 * u + 1 := by rw [eA, Nat.mul_div_cancel _ hp]
      have hle : 2 * u + 1 ≤ A := by
        have := Nat.mul_le_mul_left (2 * u + 1) hp
        omega
      have nO : nd (2 * u + 1) ≤ nd A := nd_mono hle
      have ht : t < 2000 := by
        have h1 : 2 ^ t ≤ A := by
          have := Nat.mul_le_mul_right (2 ^ t) (show 1 ≤ 2 * u + 1 by omega)
          omega
        have h2 := nd_le.mp nA2
        rw [nn_pw] at h2
        have h3 := (Nat.pow_lt_pow_iff_right (show 1 < 2 by decide)).mp (Nat.lt_of_le_of_lt h1 h2)
        omega
      refine And.intro rfl (And.intro rfl ⟨(19, A, t, u), ⟨rfl, by decide, hA2, by omega, eA⟩, ?_⟩)
      rintro x M ⟨rfl, rfl⟩
      refine And.intro rfl (And.intro rfl ⟨(19, 19, t, A), ⟨rfl, by decide, by decide, by omega, hA2, by omega⟩, ?_⟩)
      rintro M1 ⟨hA3, hF1⟩
      rw [ediv] at hA3
      have hB1 := hF1.keep (by decide) (by decide) (by decide) hB
      have f1 := hF.tr (hF1.K (by decide) (by decide))
      refine And.intro rfl (And.intro rfl ⟨(11, 0, B), ⟨rfl, by decide, ⟨by omega, by omega⟩, hB1, by omega⟩, ?_⟩)
      rintro x M1 ⟨rfl, rfl⟩
      rw [dgZ_0]
      refine And.intro ⟨by omega, by omega, ⟨by omega, by omega⟩, ⟨by omega, by omega⟩⟩ (And.intro ⟨by omega, by omega, ⟨by omega, by omega⟩, ⟨by omega, by omega⟩⟩ ?_)
      conv => whnf
      obtain ⟨b8, eb8⟩ : ∃ b8, b8 = B % 8 := ⟨_, rfl⟩
      rw [show ((B % 32768 : Nat) : Int) % 8 = (b8 : Int) by omega]
      have go : ∀ s' : Int, s' = (if t % 2 = 1 ∧ (B % 8 = 3 ∨ B % 8 = 5) then -s else s) → aw 106 [some (.inr (.inr 6)), some (.inr (.inr a)), some (.inr (.inr m)), some (.inl s'), some (.inl (k : Int)), some (.inl (t : Int)), some (.inl (b8 : Int))] [] M1 := by
        intro s' es
        rw [← es] at hj
        have hs' : s' = 1 ∨ s' = -1 := by
          rw [es]
          split <;> omega
        have go2 : ∀ s2 : Int, s2 = (if (2 * u + 1) % 4 = 3 ∧ B % 4 = 3 then -s' else s') → aw 131 [some (.inr (.inr 6)), some (.inr (.inr a)), some (.inr (.inr m)), some (.inl s2), some (.inl (k : Int)), some (.inl (t : Int)), some (.inl (b8 : Int))] [] M1 := by
          intro s2 es2
          rw [← es2] at hj
          have hs2 : s2 = 1 ∨ s2 = -1 := by
            rw [es2]
            split <;> omega
          have nr := nd_md (a := B) (m := 2 * u + 1) (by omega)
          refine run 60 [30] _ _ _ _ ?_
          refine And.intro rfl (And.intro rfl (And.intro rfl ⟨(11, 19, B, 2 * u + 1), ⟨rfl, i11, i19, hB1, by omega, hA3, by omega⟩, ?_⟩))
          rintro M2 ⟨-, hR2, hF2⟩
          refine And.intro rfl (And.intro rfl (And.intro rfl ⟨(11, 19, 2 * u + 1), ⟨rfl, by decide, by decide, by decide, hF2.keep i19 hA3, by omega⟩, ?_⟩))
          rintro M3 ⟨hX3, hF3⟩
          refine And.intro rfl (And.intro rfl (And.intro rfl ⟨(19, 9, B % (2 * u + 1)), ⟨rfl, by decide, by decide, by decide, hF3.keep (by decide) (by decide) (by decide) hR2, by omega⟩, ?_⟩))
          rintro M4 ⟨hX4, hF4⟩
          refine And.intro ?_ trivial
          rw [show (k : Int) + 1 = ((k + 1 : Nat) : Int) by omega]
          exact ih (k + 1) s2 (B % (2 * u + 1)) (2 * u + 1) M4 _ _ (by omega) ((hE.le hle).s (by omega)) hs2 hj (by omega) (by omega) (hF4.keep (by decide) (by decide) (by decide) hX3) hX4 (((f1.tr hF2.K).tr (hF3.K (by decide) (by decide))).tr (hF4.K (by decide) (by decide)))
        refine run 60 [131] _ _ _ _ ?_
        refine And.intro rfl (And.intro rfl ⟨(19, 0, 2 * u + 1), ⟨rfl, by decide, ⟨by omega, by omega⟩, hA3, by omega⟩, ?_⟩)
        rintro x M1 ⟨rfl, rfl⟩
        rw [dgZ_0]
        refine And.intro ⟨by omega, by omega, ⟨by omega, by omega⟩, ⟨by omega, by omega⟩⟩ ?_
        refine And.intro ⟨⟨by omega, by omega⟩, ⟨by omega, by omega⟩⟩ (And.intro (fun c1 => ?_) (fun c2 => ?_))
        · exact And.intro (go2 s' (by rw [if_neg (by omega)])) trivial
        refine And.intro ⟨by omega, by omega, ⟨by omega, by omega⟩, ⟨by omega, by omega⟩⟩ ?_
        refine And.intro ⟨⟨by omega, by omega⟩, ⟨by omega, by omega⟩⟩ (And.intro (fun c1 => ?_) (fun c2 => ?_))
        · exact And.intro (go2 s' (by rw [if_neg (by omega)])) trivial
        · exact And.intro (go2 (-s') (by rw [if_pos (by omega)])) trivial
      refine And.intro ⟨⟨by omega, by omega⟩, ⟨by omega, by omega⟩⟩ (And.intro (fun c1 => ?_) (fun c2 => ?_))
      · exact And.intro (go s (by rw [if_neg (by omega)])) trivial
      refine And.intro ⟨⟨by omega, by omega⟩, ⟨by omega, by omega⟩⟩ (And.intro (fun c1 => ?_) (fun c2 => ?_))
      · exact And.intro (go (-s) (by rw [if_pos (by omega)])) trivial
      refine And.intro ⟨⟨by omega, by omega⟩, ⟨by omega, by omega⟩⟩ (And.intro (fun c1 => ?_) (fun c2 => ?_))
      · exact And.intro (go s (by rw [if_neg (by omega)])) trivial
      · exact And.intro (go (-s) (by rw [if_pos (by omega)])) trivial
  change aw 0 [some (.inr (.inr 6)), some (.inr (.inr a)), some (.inr (.inr m)), none, none, none, none] [] M0
  refine run 60 [30] _ _ _ _ ?_
  have nr := nd_md (a := v) hw0
  refine And.intro rfl ⟨(a, m, v, w), ⟨rfl, ha.In, hm.In, hA, by omega, hW, by omega⟩, ?_⟩
  rintro M1 ⟨-, hR1, hF1⟩
  refine And.intro rfl (And.intro rfl (And.intro rfl ⟨(19, 9, v % w), ⟨rfl, by decide, by decide, by decide, hR1, by omega⟩, ?_⟩))
  rintro M2 ⟨hX2, hF2⟩
  have f2 := hF1.K.tr (hF2.K (by decide) (by decide))
  refine And.intro rfl (And.intro rfl ⟨(11, m, w), ⟨rfl, by decide, hm.1, by omega, f2.keep hm hW, by omega⟩, ?_⟩)
  rintro M3 ⟨hX3, hF3⟩
  refine And.intro ?_ trivial
  exact loop 2000 0 1 (v % w) w M3 _ _ (by omega) (Eu.st nW (by omega)) (Or.inl rfl) rfl (by omega) nW hX3 (hF3.keep (by decide) (by decide) (by decide) hX2) (f2.tr (hF3.K (by decide) (by decide)))
theorem imX0_jacobiSymbol {l : Launch} {Z : ZT} (hZ : ZOk Z) : Impl l Z yX0_jacobiSymbol cX0_jacobiSymbol 7 (some .int) 5 c_jacS := mkImpl (rt := 1) (CL := [(95, some 0, c_divX), (71, some 5, c_copyX), (117, some 5, c_tzX), (92, none, c_shiftDown), (50, some 5, c_limbAt), (120, some 5, c_isOneX)]) hZ.1 hZ.2.1 (by decide +kernel) kX0_jacobiSymbol fwX0 iwX0 lwX0 trivial (Nat.le_of_ble_eq_true rfl) (List.forall_mem_cons.mpr ⟨gX0_95 hZ (by decide), List.forall_mem_cons.mpr ⟨gX0_71 hZ (by decide), List.forall_mem_cons.mpr ⟨gX0_117 hZ (by decide), List.forall_mem_cons.mpr ⟨gX0_92 hZ (by decide), List.forall_mem_cons.mpr ⟨gX0_50 hZ (by decide), List.forall_mem_cons.mpr ⟨gX0_120 hZ (by decide), fun q h => absurd h List.not_mem_nil⟩⟩⟩⟩⟩⟩) ((v_jacS _))
theorem gX7_235 {l : Launch} {Z : ZT} (hZ : ZOk Z) {d : Nat} (hd : 6 ≤ d) : CallI l Z RX7 d (235, some 0, c_jacS) := fun p e s m args below meth c Q cc nL x0 X => callOk_V X (imX0_jacobiSymbol hZ) (by decide) rfl mlX7_235 iw_yX0_jacobiSymbol vw_yX0_jacobiSymbol nw_RX0 cw_yX0_jacobiSymbol ⟨by decide +kernel, by decide +kernel, by decide +kernel⟩ ⟨hd, by decide⟩
