/-! ===== the class: mul, gcd, root, powmod, jacobi ===== -/
theorem v_mulX (n : Nn) : Ver tX7_mul (fdX7, icX7, lcX7, [(161, some 1, c_areLive n), (180, some 1, c_takeA n), (113, some 1, c_readX n), (183, none, c_productX), (169, some 1, c_come n)]) 1 6 n (cX3 mulF n) := by
  rintro ⟨q, d, a, b⟩ vs M0 ⟨rfl, id, ia, ib, R⟩ aw run
  have l5 : lnF n 5 = n.1 := rfl
  change aw 0 [some (.inr (.inr 0)), some (.inl d), some (.inl a), some (.inl b), none, none] [] M0
  refine run 90 [61] _ _ _ _ ?_
  refine And.intro rfl (And.intro rfl ⟨(0, q, d, a, b), ⟨rfl, id, ia, ib, R⟩, ?_⟩)
  rintro x M0 ⟨⟨rfl, L⟩ | ⟨rfl, L⟩, rfl⟩
  rotate_left
  · refine And.intro ⟨⟨by omega, by omega⟩, ⟨by omega, by omega⟩⟩ (And.intro (fun c1 => absurd c1 (by omega)) (fun _ => ?_))
    refine Or.inl ?_
    show -2 = ((mulF n q d a b)).1 ∧ XN n M0 0 ((mulF n q d a b)).2 ∧ FP M0 M0
    rw [show (mulF n q d a b) = (-2, q) from if_neg L]
    exact ⟨rfl, R, FP.rf _⟩
  refine And.intro ⟨⟨by omega, by omega⟩, ⟨by omega, by omega⟩⟩ (And.intro (fun _ => ?_) (fun c2 => absurd c2 (by omega)))
  obtain ⟨hd, ha, hb⟩ := L
  obtain ⟨d, rfl, d_1, d_2⟩ := hd.nat
  have Ad := R.at d_1 d_2
  obtain ⟨a, rfl, a_1, a_2⟩ := ha.nat
  have Aa := R.at a_1 a_2
  obtain ⟨b, rfl, b_1, b_2⟩ := hb.nat
  have Ab := R.at b_1 b_2
  have L0 := And.intro (Lv.of d_1 d_2) (And.intro (Lv.of a_1 a_2) (Lv.of b_1 b_2))
  have e : mulF n q d a b = (if 0 < nd (q.2.2.2 a) ∧ 0 < nd (q.2.2.2 b) ∧ 64 < nd (q.2.2.2 a) + nd (q.2.2.2 b) then (-8, q) else tcR n 0 q ((nd (q.2.2.2 a) + nd (q.2.2.2 b) : Nat) : Int) (fun tk q1 => cmR n tk q1 d (q.2.2.2 a * q.2.2.2 b))) := if_pos L0
  have na : nd (q.2.2.2 a) ≤ 64 := by omega
  have nb_ : nd (q.2.2.2 b) ≤ 64 := by omega
  refine And.intro rfl (And.intro rfl (And.intro ⟨rfl, by omega, by omega⟩ (And.intro rfl (And.intro rfl (And.intro ⟨rfl, by omega, by omega⟩ ?_)))))
  conv => whnf
  rw [Int.toNat_natCast, Int.toNat_natCast, Aa.2.2.2.2.1, Ab.2.2.2.2.1]
  have go : ¬ (0 < nd (q.2.2.2 a) ∧ 0 < nd (q.2.2.2 b) ∧ 64 < nd (q.2.2.2 a) + nd (q.2.2.2 b)) → aw 61 [some (.inr (.inr 0)), some (.inl (d : Int)), some (.inl (a : Int)), some (.inl (b : Int)), some (.inl (nd (q.2.2.2 a) : Int)), some (.inl (nd (q.2.2.2 b) : Int))] [] M0 := by
    intro hn
    rw [if_neg hn] at e
    refine run 90 [] _ _ _ _ ?_
    refine And.intro rfl ?_
    conv => whnf
    rw [show (nd (q.2.2.2 a) : Int) + (nd (q.2.2.2 b) : Int) = ((nd (q.2.2.2 a) + nd (q.2.2.2 b) : Nat) : Int) by omega]
    refine And.intro rfl ⟨(0, q, ((nd (q.2.2.2 a) + nd (q.2.2.2 b) : Nat) : Int)), ⟨rfl, R, by omega, by omega, by omega⟩, ?_⟩
    rintro x M1 ⟨tk1, q1, ho1, R1, rk1, vk1, hF1⟩
    rcases ho1 with ⟨rfl, ht1, hu1⟩ | ⟨rfl, ht1, hu1⟩
    rotate_left
    · refine And.intro ⟨⟨by omega, by omega⟩, ⟨by omega, by omega⟩⟩ (And.intro (fun c1 => absurd c1 (by omega)) (fun _ => ?_))
      refine Or.inl ?_
      show -4 = ((mulF n q d a b)).1 ∧ XN n M1 0 ((mulF n q d a b)).2 ∧ FP M0 M1
      rw [e, hu1]
      subst ht1
      exact ⟨rfl, R1, hF1.P⟩
    refine And.intro ⟨⟨by omega, by omega⟩, ⟨by omega, by omega⟩⟩ (And.intro (fun _ => ?_) (fun c2 => absurd c2 (by omega)))
    have e2 := e.trans (hu1 _)
    have a2 : 0 < q1.2.1 a := by rw [rk1 a a_1]; exact a_2
    have b2 : 0 < q1.2.1 b := by rw [rk1 b b_1]; exact b_2
    have d2 : 0 < q1.2.1 d := by rw [rk1 d d_1]; exact d_2
    refine And.intro rfl (And.intro rfl (And.intro rfl ⟨(tk1, q1, a, 21), ⟨rfl, by decide, a_1, a2, R1⟩, ?_⟩))
    rintro M2 ⟨hX2, hF2⟩
    have R2 := R1.fx hF2 (by decide)
    refine And.intro rfl (And.intro rfl (And.intro rfl ⟨(tk1, q1, b, 23), ⟨rfl, by decide, b_1, b2, R2⟩, ?_⟩))
    rintro M3 ⟨hX3, hF3⟩
    have R3 := R2.fx hF3 (by decide)
    rw [vk1] at hX2 hX3
    refine And.intro rfl (And.intro rfl (And.intro rfl ⟨(25, 21, 23, q.2.2.2 a, q.2.2.2 b), ⟨rfl, by decide, by decide, by decide, by decide, by decide, hF3.keep (by decide) (by decide) (by decide) hX2, hX3, by omega⟩, ?_⟩))
    rintro M4 ⟨hX4, hF4⟩
    have R4 := R3.fx hF4 (by decide)
    have hnd : nd (q.2.2.2 a * q.2.2.2 b) ≤ 64 := by
      by_cases c1 : nd (q.2.2.2 a) = 0
      · rw [nd_z.mp c1, Nat.zero_mul, nd_0]
        omega
      · by_cases c2 : nd (q.2.2.2 b) = 0
        · rw [nd_z.mp c2, Nat.mul_zero, nd_0]
          omega
        · have := nd_pr (q.2.2.2 a) (q.2.2.2 b)
          omega
    refine And.intro rfl (And.intro rfl (And.intro rfl ⟨(tk1, q1, d, 25, q.2.2.2 a * q.2.2.2 b), ⟨rfl, R4, by omega, d_1, d2, by decide, hX4, by omega⟩, ?_⟩))
    rintro x M5 ⟨h, hF5⟩
    rcases h with ⟨h6, rfl, R5⟩ | ⟨h6, rfl, R5⟩
    · omega
    · refine Or.inl ?_
      show (cmR n tk1 q1 d (q.2.2.2 a * q.2.2.2 b)).1 = ((mulF n q d a b)).1 ∧ XN n M5 0 ((mulF n q d a b)).2 ∧ FP M0 M5
      rw [e2]
      exact ⟨rfl, R5, (((hF1.P.tr (hF2.P (by decide))).tr (hF3.P (by decide))).tr (hF4.P (by decide))).tr hF5.P⟩
  refine And.intro ⟨⟨by omega, by omega⟩, ⟨by omega, by omega⟩⟩ (And.intro (fun c1 => ?_) (fun c2 => ?_))
  · exact And.intro (go (by omega)) trivial
  refine And.intro ⟨⟨by omega, by omega⟩, ⟨by omega, by omega⟩⟩ (And.intro (fun c1 => ?_) (fun c2 => ?_))
  · exact And.intro (go (by omega)) trivial
  refine And.intro ⟨⟨by omega, by omega⟩, ⟨by omega, by omega⟩⟩ (And.intro (fun c1 => ?_) (fun c2 => ?_))
  · exact And.intro (go (by omega)) trivial
  refine Or.inl ?_
  show -8 = ((mulF n q d a b)).1 ∧ XN n M0 0 ((mulF n q d a b)).2 ∧ FP M0 M0
  rw [e, if_pos (by omega)]
  exact ⟨rfl, R, FP.rf _⟩
theorem imX7_mul {l : Launch} {Z : ZT} (hZ : ZOk Z) : Impl l Z yX7_mul cX7_mul 6 (some .int) 7 (cX3 mulF (zN Z)) := mkImpl (rt := 1) (CL := [(161, some 1, (c_areLive (zN Z))), (180, some 1, (c_takeA (zN Z))), (113, some 1, (c_readX (zN Z))), (183, none, c_productX), (169, some 1, (c_come (zN Z)))]) hZ.1 hZ.2.1 (by decide +kernel) kX7_mul fwX7 iwX7 lwX7 trivial (Nat.le_of_ble_eq_true rfl) (List.forall_mem_cons.mpr ⟨gX7_161 hZ (by decide), List.forall_mem_cons.mpr ⟨gX7_180 hZ (by decide), List.forall_mem_cons.mpr ⟨gX7_113 hZ (by decide), List.forall_mem_cons.mpr ⟨gX7_183 hZ (by decide), List.forall_mem_cons.mpr ⟨gX7_169 hZ (by decide), fun q h => absurd h List.not_mem_nil⟩⟩⟩⟩⟩) ((v_mulX (zN Z)))
theorem v_gcdX (n : Nn) : Ver tX7_gcd (fdX7, icX7, lcX7, [(161, some 1, c_areLive n), (82, none, c_max), (180, some 1, c_takeA n), (113, some 1, c_readX n), (221, some 0, c_comD), (169, some 1, c_come n)]) 1 4 n (cX3 gcdF n) := by
  rintro ⟨q, d, a, b⟩ vs M0 ⟨rfl, id, ia, ib, R⟩ aw run
  have l5 : lnF n 5 = n.1 := rfl
  change aw 0 [some (.inr (.inr 0)), some (.inl d), some (.inl a), some (.inl b)] [] M0
  refine run 90 [] _ _ _ _ ?_
  refine And.intro rfl (And.intro rfl ⟨(0, q, d, a, b), ⟨rfl, id, ia, ib, R⟩, ?_⟩)
  rintro x M0 ⟨⟨rfl, L⟩ | ⟨rfl, L⟩, rfl⟩
  rotate_left
  · refine And.intro ⟨⟨by omega, by omega⟩, ⟨by omega, by omega⟩⟩ (And.intro (fun c1 => absurd c1 (by omega)) (fun _ => ?_))
    refine Or.inl ?_
    show -2 = ((gcdF n q d a b)).1 ∧ XN n M0 0 ((gcdF n q d a b)).2 ∧ FP M0 M0
    rw [show (gcdF n q d a b) = (-2, q) from if_neg L]
    exact ⟨rfl, R, FP.rf _⟩
  refine And.intro ⟨⟨by omega, by omega⟩, ⟨by omega, by omega⟩⟩ (And.intro (fun _ => ?_) (fun c2 => absurd c2 (by omega)))
  obtain ⟨hd, ha, hb⟩ := L
  obtain ⟨d, rfl, d_1, d_2⟩ := hd.nat
  have Ad := R.at d_1 d_2
  obtain ⟨a, rfl, a_1, a_2⟩ := ha.nat
  have Aa := R.at a_1 a_2
  obtain ⟨b, rfl, b_1, b_2⟩ := hb.nat
  have Ab := R.at b_1 b_2
  have L0 := And.intro (Lv.of d_1 d_2) (And.intro (Lv.of a_1 a_2) (Lv.of b_1 b_2))
  have e : gcdF n q d a b = tcR n 0 q ((2 * max (nd (q.2.2.2 a)) (nd (q.2.2.2 b)) : Nat) : Int) (fun t1 q1 => cmR n t1 q1 d (Nat.gcd (q.2.2.2 a) (q.2.2.2 b))) := if_pos L0
  have na : nd (q.2.2.2 a) ≤ 64 := by omega
  have nb_ : nd (q.2.2.2 b) ≤ 64 := by omega
  refine And.intro rfl (And.intro rfl (And.intro rfl (And.intro ⟨rfl, by omega, by omega⟩ (And.intro rfl (And.intro rfl (And.intro ⟨rfl, by omega, by omega⟩ ?_))))))
  conv => whnf
  rw [Int.toNat_natCast, Int.toNat_natCast, Aa.2.2.2.2.1, Ab.2.2.2.2.1]
  refine ⟨((nd (q.2.2.2 a) : Int), (nd (q.2.2.2 b) : Int)), ⟨rfl, ⟨by omega, by omega⟩, ⟨by omega, by omega⟩⟩, ?_⟩
  rintro x M0 ⟨rfl, rfl⟩
  conv => whnf
  rw [show 2 * max (nd (q.2.2.2 a) : Int) (nd (q.2.2.2 b) : Int) = ((2 * max (nd (q.2.2.2 a)) (nd (q.2.2.2 b)) : Nat) : Int) by omega]
  refine And.intro rfl ⟨(0, q, ((2 * max (nd (q.2.2.2 a)) (nd (q.2.2.2 b)) : Nat) : Int)), ⟨rfl, R, by omega, by omega, by omega⟩, ?_⟩
  rintro x M1 ⟨tk1, q1, ho1, R1, rk1, vk1, hF1⟩
  rcases ho1 with ⟨rfl, ht1, hu1⟩ | ⟨rfl, ht1, hu1⟩
  rotate_left
  · refine And.intro ⟨⟨by omega, by omega⟩, ⟨by omega, by omega⟩⟩ (And.intro (fun c1 => absurd c1 (by omega)) (fun _ => ?_))
    refine Or.inl ?_
    show -4 = ((gcdF n q d a b)).1 ∧ XN n M1 0 ((gcdF n q d a b)).2 ∧ FP M0 M1
    rw [e, hu1]
    subst ht1
    exact ⟨rfl, R1, hF1.P⟩
  refine And.intro ⟨⟨by omega, by omega⟩, ⟨by omega, by omega⟩⟩ (And.intro (fun _ => ?_) (fun c2 => absurd c2 (by omega)))
  have e2 := e.trans (hu1 _)
  have a2 : 0 < q1.2.1 a := by rw [rk1 a a_1]; exact a_2
  have b2 : 0 < q1.2.1 b := by rw [rk1 b b_1]; exact b_2
  have d2 : 0 < q1.2.1 d := by rw [rk1 d d_1]; exact d_2
  refine And.intro rfl (And.intro rfl (And.intro rfl ⟨(tk1, q1, a, 21), ⟨rfl, by decide, a_1, a2, R1⟩, ?_⟩))
  rintro M2 ⟨hX2, hF2⟩
  have R2 := R1.fx hF2 (by decide)
  refine And.intro rfl (And.intro rfl (And.intro rfl ⟨(tk1, q1, b, 23), ⟨rfl, by decide, b_1, b2, R2⟩, ?_⟩))
  rintro M3 ⟨hX3, hF3⟩
  have R3 := R2.fx hF3 (by decide)
  rw [vk1] at hX2 hX3
  refine And.intro rfl (And.intro rfl (And.intro rfl (And.intro rfl ⟨(21, 23, q.2.2.2 a, q.2.2.2 b), ⟨rfl, by decide, by decide, hF3.keep (by decide) (by decide) (by decide) hX2, by omega, hX3, by omega⟩, ?_⟩)))
  rintro M4 ⟨hX4, hF4⟩
  have R4 := R3.fk hF4
  have hnd : nd (Nat.gcd (q.2.2.2 a) (q.2.2.2 b)) ≤ 64 := by
    by_cases c1 : q.2.2.2 a = 0
    · rw [c1, Nat.gcd_zero_left]
      exact nb_
    · exact Nat.le_trans (nd_mono (Nat.gcd_le_left _ (Nat.pos_of_ne_zero c1))) na
  refine And.intro rfl (And.intro rfl (And.intro rfl (And.intro rfl ⟨(tk1, q1, d, 11, Nat.gcd (q.2.2.2 a) (q.2.2.2 b)), ⟨rfl, R4, by omega, d_1, d2, by decide, hX4, by omega⟩, ?_⟩)))
  rintro x M5 ⟨h, hF5⟩
  rcases h with ⟨h6, rfl, R5⟩ | ⟨h6, rfl, R5⟩
  · omega
  · refine Or.inl ?_
    show (cmR n tk1 q1 d (Nat.gcd (q.2.2.2 a) (q.2.2.2 b))).1 = ((gcdF n q d a b)).1 ∧ XN n M5 0 ((gcdF n q d a b)).2 ∧ FP M0 M5
    rw [e2]
    exact ⟨rfl, R5, (((hF1.P.tr (hF2.P (by decide))).tr (hF3.P (by decide))).tr hF4.P).tr hF5.P⟩
theorem imX7_gcd {l : Launch} {Z : ZT} (hZ : ZOk Z) : Impl l Z yX7_gcd cX7_gcd 4 (some .int) 7 (cX3 gcdF (zN Z)) := mkImpl (rt := 1) (CL := [(161, some 1, (c_areLive (zN Z))), (82, none, c_max), (180, some 1, (c_takeA (zN Z))), (113, some 1, (c_readX (zN Z))), (221, some 0, c_comD), (169, some 1, (c_come (zN Z)))]) hZ.1 hZ.2.1 (by decide +kernel) kX7_gcd fwX7 iwX7 lwX7 trivial (Nat.le_of_ble_eq_true rfl) (List.forall_mem_cons.mpr ⟨gX7_161 hZ (by decide), List.forall_mem_cons.mpr ⟨gX7_82 hZ (by decide), List.forall_mem_cons.mpr ⟨gX7_180 hZ (by decide), List.forall_mem_cons.mpr ⟨gX7_113 hZ (by decide), List.forall_mem_cons.mpr ⟨gX7_221 hZ (by decide), List.forall_mem_cons.mpr ⟨gX7_169 hZ (by decide), fun q h => absurd h List.not_mem_nil⟩⟩⟩⟩⟩⟩) ((v_gcdX (zN Z)))
theorem v_rootX (n : Nn) : Ver tX7_root (fdX7, icX7, lcX7, [(161, some 1, c_areLive n), (180, some 1, c_takeA n), (113, some 1, c_readX n), (224, some 0, c_sqR), (169, some 1, c_come n)]) 1 3 n (cX2 rotF n) := by
  rintro ⟨q, d, a⟩ vs M0 ⟨rfl, id, ia, R⟩ aw run
  have l5 : lnF n 5 = n.1 := rfl
  change aw 0 [some (.inr (.inr 0)), some (.inl d), some (.inl a)] [] M0
  refine run 90 [] _ _ _ _ ?_
  refine And.intro rfl (And.intro rfl ⟨(0, q, d, a, a), ⟨rfl, id, ia, ia, R⟩, ?_⟩)
  rintro x M0 ⟨⟨rfl, L⟩ | ⟨rfl, L⟩, rfl⟩
  rotate_left
  · refine And.intro ⟨⟨by omega, by omega⟩, ⟨by omega, by omega⟩⟩ (And.intro (fun c1 => absurd c1 (by omega)) (fun _ => ?_))
    refine Or.inl ?_
    show -2 = ((rotF n q d a)).1 ∧ XN n M0 0 ((rotF n q d a)).2 ∧ FP M0 M0
    rw [show (rotF n q d a) = (-2, q) from if_neg (fun z => L ⟨z.1, z.2, z.2⟩)]
    exact ⟨rfl, R, FP.rf _⟩
  refine And.intro ⟨⟨by omega, by omega⟩, ⟨by omega, by omega⟩⟩ (And.intro (fun _ => ?_) (fun c2 => absurd c2 (by omega)))
  obtain ⟨hd, ha, -⟩ := L
  obtain ⟨d, rfl, d_1, d_2⟩ := hd.nat
  have Ad := R.at d_1 d_2
  obtain ⟨a, rfl, a_1, a_2⟩ := ha.nat
  have Aa := R.at a_1 a_2
  have L0 := And.intro (Lv.of d_1 d_2) (Lv.of a_1 a_2)
  have e : rotF n q d a = tcR n 0 q ((3 * (nd (q.2.2.2 a) + 1) : Nat) : Int) (fun t1 q1 => cmR n t1 q1 d (sqF (q.2.2.2 a))) := if_pos L0
  have na : nd (q.2.2.2 a) ≤ 64 := by omega
  refine And.intro rfl (And.intro rfl (And.intro rfl (And.intro ⟨rfl, by omega, by omega⟩ ?_)))
  conv => whnf
  rw [Int.toNat_natCast, Aa.2.2.2.2.1, show 3 * ((nd (q.2.2.2 a) : Int) + 1) = ((3 * (nd (q.2.2.2 a) + 1) : Nat) : Int) by omega]
  refine And.intro rfl ⟨(0, q, ((3 * (nd (q.2.2.2 a) + 1) : Nat) : Int)), ⟨rfl, R, by omega, by omega, by omega⟩, ?_⟩
  rintro x M1 ⟨tk1, q1, ho1, R1, rk1, vk1, hF1⟩
  rcases ho1 with ⟨rfl, ht1, hu1⟩ | ⟨rfl, ht1, hu1⟩
  rotate_left
  · refine And.intro ⟨⟨by omega, by omega⟩, ⟨by omega, by omega⟩⟩ (And.intro (fun c1 => absurd c1 (by omega)) (fun _ => ?_))
    refine Or.inl ?_
    show -4 = ((rotF n q d a)).1 ∧ XN n M1 0 ((rotF n q d a)).2 ∧ FP M0 M1
    rw [e, hu1]
    subst ht1
    exact ⟨rfl, R1, hF1.P⟩
  refine And.intro ⟨⟨by omega, by omega⟩, ⟨by omega, by omega⟩⟩ (And.intro (fun _ => ?_) (fun c2 => absurd c2 (by omega)))
  have e2 := e.trans (hu1 _)
  have a2 : 0 < q1.2.1 a := by rw [rk1 a a_1]; exact a_2
  have d2 : 0 < q1.2.1 d := by rw [rk1 d d_1]; exact d_2
  refine And.intro rfl (And.intro rfl (And.intro rfl ⟨(tk1, q1, a, 21), ⟨rfl, by decide, a_1, a2, R1⟩, ?_⟩))
  rintro M2 ⟨hX2, hF2⟩
  have R2 := R1.fx hF2 (by decide)
  rw [vk1] at hX2
  refine And.intro rfl (And.intro rfl (And.intro rfl ⟨(21, q.2.2.2 a), ⟨rfl, by decide, hX2, by omega⟩, ?_⟩))
  rintro M4 ⟨hX4, hF4⟩
  have R4 := R2.fk hF4
  have hnd : nd (sqF (q.2.2.2 a)) ≤ 64 := by
    refine Nat.le_trans (nd_mono ?_) na
    have h1 := (sqF_sq (q.2.2.2 a)).1
    by_cases c : sqF (q.2.2.2 a) = 0
    · omega
    · exact Nat.le_trans (Nat.le_mul_of_pos_left _ (Nat.pos_of_ne_zero c)) h1
  refine And.intro rfl (And.intro rfl (And.intro rfl (And.intro rfl ⟨(tk1, q1, d, 11, sqF (q.2.2.2 a)), ⟨rfl, R4, by omega, d_1, d2, by decide, hX4, by omega⟩, ?_⟩)))
  rintro x M5 ⟨h, hF5⟩
  rcases h with ⟨h6, rfl, R5⟩ | ⟨h6, rfl, R5⟩
  · omega
  · refine Or.inl ?_
    show (cmR n tk1 q1 d (sqF (q.2.2.2 a))).1 = ((rotF n q d a)).1 ∧ XN n M5 0 ((rotF n q d a)).2 ∧ FP M0 M5
    rw [e2]
    exact ⟨rfl, R5, ((hF1.P.tr (hF2.P (by decide))).tr hF4.P).tr hF5.P⟩
theorem imX7_root {l : Launch} {Z : ZT} (hZ : ZOk Z) : Impl l Z yX7_root cX7_root 3 (some .int) 7 (cX2 rotF (zN Z)) := mkImpl (rt := 1) (CL := [(161, some 1, (c_areLive (zN Z))), (180, some 1, (c_takeA (zN Z))), (113, some 1, (c_readX (zN Z))), (224, some 0, c_sqR), (169, some 1, (c_come (zN Z)))]) hZ.1 hZ.2.1 (by decide +kernel) kX7_root fwX7 iwX7 lwX7 trivial (Nat.le_of_ble_eq_true rfl) (List.forall_mem_cons.mpr ⟨gX7_161 hZ (by decide), List.forall_mem_cons.mpr ⟨gX7_180 hZ (by decide), List.forall_mem_cons.mpr ⟨gX7_113 hZ (by decide), List.forall_mem_cons.mpr ⟨gX7_224 hZ (by decide), List.forall_mem_cons.mpr ⟨gX7_169 hZ (by decide), fun q h => absurd h List.not_mem_nil⟩⟩⟩⟩⟩) ((v_rootX (zN Z)))
set_option maxHeartbeats 4000000 in
theorem v_powmodX (n : Nn) : Ver tX7_powmod (fdX7, icX7, lcX7, [(161, some 1, c_areLive n), (100, some 1, c_isLiveX n), (82, none, c_max), (180, some 1, c_takeA n), (113, some 1, c_readX n), (215, some 0, c_raise), (169, some 1, c_come n)]) 1 8 n (cX4 pwmF n) := by
  rintro ⟨q, d, a, k, m⟩ vs M0 ⟨rfl, id, ia, ik, im, R⟩ aw run
  have l5 : lnF n 5 = n.1 := rfl
  have bad : ¬ (Lv n q d ∧ Lv n q a ∧ Lv n q k ∧ Lv n q m) → aw 25 [some (.inr (.inr 0)), some (.inl d), some (.inl a), some (.inl k), some (.inl m), none, none, none] [] M0 := by
    intro hb
    refine run 60 [] _ _ _ _ ?_
    refine Or.inl ?_
    show -2 = ((pwmF n q d a k m)).1 ∧ XN n M0 0 ((pwmF n q d a k m)).2 ∧ FP M0 M0
    rw [show pwmF n q d a k m = (-2, q) from if_neg hb]
    exact ⟨rfl, R, FP.rf _⟩
  change aw 0 [some (.inr (.inr 0)), some (.inl d), some (.inl a), some (.inl k), some (.inl m), none, none, none] [] M0
  refine run 120 [25, 108] _ _ _ _ ?_
  refine And.intro rfl (And.intro rfl ⟨(0, q, d, a, k), ⟨rfl, id, ia, ik, R⟩, ?_⟩)
  rintro x M0 ⟨⟨rfl, L⟩ | ⟨rfl, L⟩, rfl⟩
  rotate_left
  · refine And.intro ⟨⟨by omega, by omega⟩, ⟨by omega, by omega⟩⟩ (And.intro (fun _ => ?_) (fun c2 => absurd c2 (by omega)))
    exact And.intro (bad (fun z => L ⟨z.1, z.2.1, z.2.2.1⟩)) trivial
  refine And.intro ⟨⟨by omega, by omega⟩, ⟨by omega, by omega⟩⟩ (And.intro (fun c1 => absurd c1 (by omega)) (fun _ => ?_))
  refine And.intro rfl (And.intro rfl ⟨(0, q, m), ⟨rfl, im, R⟩, ?_⟩)
  rintro x M0 ⟨⟨rfl, hm⟩ | ⟨rfl, hm⟩, rfl⟩
  rotate_left
  · refine And.intro ⟨⟨by omega, by omega⟩, ⟨by omega, by omega⟩⟩ (And.intro (fun c1 => absurd c1 (by omega)) (fun _ => ?_))
    exact And.intro (bad (fun z => hm z.2.2.2)) trivial
  refine And.intro ⟨⟨by omega, by omega⟩, ⟨by omega, by omega⟩⟩ (And.intro (fun _ => ?_) (fun c2 => absurd c2 (by omega)))
  clear bad
  obtain ⟨hd, ha, hk⟩ := L
  obtain ⟨d, rfl, d_1, d_2⟩ := hd.nat
  have Ad := R.at d_1 d_2
  obtain ⟨a, rfl, a_1, a_2⟩ := ha.nat
  have Aa := R.at a_1 a_2
  obtain ⟨k, rfl, k_1, k_2⟩ := hk.nat
  have Ak := R.at k_1 k_2
  obtain ⟨m, rfl, m_1, m_2⟩ := hm.nat
  have Am := R.at m_1 m_2
  have e : pwmF n q d a k m = (if q.2.2.2 m = 0 then (-6, q) else tcR n 0 q ((nd (q.2.2.2 m) : Nat) : Int) (fun t1 q1 => tcR n t1 q1 ((nd (q.2.2.2 m) : Nat) : Int) (fun t2 q2 => tcR n t2 q2 ((max (nd (q.2.2.2 a)) (2 * nd (q.2.2.2 m)) + 1 : Nat) : Int) (fun t3 q3 => cmR n t3 q3 d (q.2.2.2 a ^ q.2.2.2 k % q.2.2.2 m))))) := if_pos ⟨Lv.of d_1 d_2, Lv.of a_1 a_2, Lv.of k_1 k_2, Lv.of m_1 m_2⟩
  have na : nd (q.2.2.2 a) ≤ 64 := by omega
  have nk : nd (q.2.2.2 k) ≤ 64 := by omega
  have nm : nd (q.2.2.2 m) ≤ 64 := by omega
  refine And.intro rfl (And.intro rfl (And.intro ⟨rfl, by omega, by omega⟩ (And.intro rfl (And.intro rfl (And.intro ⟨rfl, by omega, by omega⟩ ?_)))))
  conv => whnf
  rw [Int.toNat_natCast, Int.toNat_natCast, Aa.2.2.2.2.1, Am.2.2.2.2.1]
  refine And.intro ⟨⟨by omega, by omega⟩, ⟨by omega, by omega⟩⟩ (And.intro (fun c1 => ?_) (fun c2 => ?_))
  rotate_left
  · refine Or.inl ?_
    show -6 = ((pwmF n q d a k m)).1 ∧ XN n M0 0 ((pwmF n q d a k m)).2 ∧ FP M0 M0
    rw [e, if_pos (nd_z.mp (by omega))]
    exact ⟨rfl, R, FP.rf _⟩
  have m0 : q.2.2.2 m ≠ 0 := fun z => by rw [z, nd_0] at c1; omega
  rw [if_neg m0] at e
  refine ⟨((nd (q.2.2.2 a) : Int), 2 * (nd (q.2.2.2 m) : Int)), ⟨rfl, ⟨by omega, by omega⟩, ⟨by omega, by omega⟩⟩, ?_⟩
  rintro x M0 ⟨rfl, rfl⟩
  conv => whnf
  rw [show max (nd (q.2.2.2 a) : Int) (2 * (nd (q.2.2.2 m) : Int)) + 1 = ((max (nd (q.2.2.2 a)) (2 * nd (q.2.2.2 m)) + 1 : Nat) : Int) by omega]
  have no : ∀ (M : Mem) (qx : RS), pwmF n q d a k m = (-4, qx) → XN n M 0 qx → FP M0 M → aw 108 [some (.inr (.inr 0)), some (.inl (d : Int)), some (.inl (a : Int)), some (.inl (k : Int)), some (.inl (m : Int)), some (.inl (nd (q.2.2.2 a) : Int)), some (.inl (nd (q.2.2.2 m) : Int)), some (.inl ((max (nd (q.2.2.2 a)) (2 * nd (q.2.2.2 m)) + 1 : Nat) : Int))] [] M := by
    intro M qx he RM fM
    refine run 60 [] _ _ _ _ ?_
    refine Or.inl ?_
    show -4 = ((pwmF n q d a k m)).1 ∧ XN n M 0 ((pwmF n q d a k m)).2 ∧ FP M0 M
    rw [he]
    exact ⟨rfl, RM, fM⟩
  refine And.intro rfl ?_
  refine And.intro rfl ⟨(0, q, (nd (q.2.2.2 m) : Int)), ⟨rfl, R, by omega, by omega, by omega⟩, ?_⟩
  rintro x M1 ⟨tk1, q1, ho1, R1, rk1, vk1, hF1⟩
  rcases ho1 with ⟨rfl, ht1, hu1⟩ | ⟨rfl, ht1, hu1⟩
  rotate_left
  · refine And.intro ⟨⟨by omega, by omega⟩, ⟨by omega, by omega⟩⟩ (And.intro (fun _ => ?_) (fun c2 => absurd c2 (by omega)))
    subst ht1
    exact And.intro (no M1 q1 (e.trans (hu1 _)) R1 hF1.P) trivial
  refine And.intro ⟨⟨by omega, by omega⟩, ⟨by omega, by omega⟩⟩ (And.intro (fun c1 => absurd c1 (by omega)) (fun _ => ?_))
  refine And.intro rfl ?_
  refine And.intro rfl ⟨(tk1, q1, (nd (q.2.2.2 m) : Int)), ⟨rfl, R1, by omega, by omega, by omega⟩, ?_⟩
  rintro x M2 ⟨tk2, q2, ho2, R2, rk2, vk2, hF2⟩
  rcases ho2 with ⟨rfl, ht2, hu2⟩ | ⟨rfl, ht2, hu2⟩
  rotate_left
  · refine And.intro ⟨⟨by omega, by omega⟩, ⟨by omega, by omega⟩⟩ (And.intro (fun _ => ?_) (fun c2 => absurd c2 (by omega)))
    subst ht2
    exact And.intro (no M2 q2 (e.trans ((hu1 _).trans (hu2 _))) R2 (hF1.P.tr hF2.P)) trivial
  refine And.intro ⟨⟨by omega, by omega⟩, ⟨by omega, by omega⟩⟩ (And.intro (fun c1 => absurd c1 (by omega)) (fun _ => ?_))
  refine And.intro rfl ?_
  refine And.intro rfl ⟨(tk2, q2, ((max (nd (q.2.2.2 a)) (2 * nd (q.2.2.2 m)) + 1 : Nat) : Int)), ⟨rfl, R2, by omega, by omega, by omega⟩, ?_⟩
  rintro x M3 ⟨tk3, q3, ho3, R3, rk3, vk3, hF3⟩
  rcases ho3 with ⟨rfl, ht3, hu3⟩ | ⟨rfl, ht3, hu3⟩
  rotate_left
  · refine And.intro ⟨⟨by omega, by omega⟩, ⟨by omega, by omega⟩⟩ (And.intro (fun c1 => absurd c1 (by omega)) (fun _ => ?_))
    subst ht3
    exact And.intro (no M3 q3 (e.trans ((hu1 _).trans ((hu2 _).trans (hu3 _)))) R3 ((hF1.P.tr hF2.P).tr hF3.P)) trivial
  refine And.intro ⟨⟨by omega, by omega⟩, ⟨by omega, by omega⟩⟩ (And.intro (fun _ => ?_) (fun c2 => absurd c2 (by omega)))
  have e2 := e.trans ((hu1 _).trans ((hu2 _).trans (hu3 _)))
  have rk : ∀ h, h < n.1 → q3.2.1 h = q.2.1 h := fun h hh => (rk3 h hh).trans ((rk2 h hh).trans (rk1 h hh))
  have vk : q3.2.2.2 = q.2.2.2 := vk3.trans (vk2.trans vk1)
  have a2 : 0 < q3.2.1 a := by rw [rk a a_1]; exact a_2
  have k2 : 0 < q3.2.1 k := by rw [rk k k_1]; exact k_2
  have m2 : 0 < q3.2.1 m := by rw [rk m m_1]; exact m_2
  have d2 : 0 < q3.2.1 d := by rw [rk d d_1]; exact d_2
  refine And.intro rfl (And.intro rfl (And.intro rfl ⟨(tk3, q3, a, 21), ⟨rfl, by decide, a_1, a2, R3⟩, ?_⟩))
  rintro M4 ⟨hX4, hF4⟩
  have R4 := R3.fx hF4 (by decide)
  refine And.intro rfl (And.intro rfl (And.intro rfl ⟨(tk3, q3, k, 23), ⟨rfl, by decide, k_1, k2, R4⟩, ?_⟩))
  rintro M5 ⟨hX5, hF5⟩
  have R5 := R4.fx hF5 (by decide)
  refine And.intro rfl (And.intro rfl (And.intro rfl ⟨(tk3, q3, m, 25), ⟨rfl, by decide, m_1, m2, R5⟩, ?_⟩))
  rintro M6 ⟨hX6, hF6⟩
  have R6 := R5.fx hF6 (by decide)
  rw [vk] at hX4 hX5 hX6
  refine And.intro rfl (And.intro rfl (And.intro rfl (And.intro rfl (And.intro rfl ⟨(21, 23, 25, q.2.2.2 a, q.2.2.2 k, q.2.2.2 m), ⟨rfl, by decide, by decide, by decide, hF6.keep (by decide) (by decide) (by decide) (hF5.keep (by decide) (by decide) (by decide) hX4), na, hF6.keep (by decide) (by decide) (by decide) hX5, nk, hX6, nm, m0⟩, ?_⟩))))
  rintro M7 ⟨hX7, hF7⟩
  have R7 := R6.fk hF7
  have hnd := nd_md (a := q.2.2.2 a ^ q.2.2.2 k) m0
  generalize q.2.2.2 a ^ q.2.2.2 k % q.2.2.2 m = P at *
  refine And.intro rfl (And.intro rfl (And.intro rfl (And.intro rfl ⟨(tk3, q3, d, 11, P), ⟨rfl, R7, by omega, d_1, d2, by decide, hX7, by omega⟩, ?_⟩)))
  rintro x M8 ⟨h, hF8⟩
  rcases h with ⟨h6, rfl, R8⟩ | ⟨h6, rfl, R8⟩
  · omega
  · refine Or.inl ?_
    show (cmR n tk3 q3 d P).1 = ((pwmF n q d a k m)).1 ∧ XN n M8 0 ((pwmF n q d a k m)).2 ∧ FP M0 M8
    rw [e2]
    exact ⟨rfl, R8, (((((((hF1.P.tr hF2.P).tr hF3.P).tr (hF4.P (by decide))).tr (hF5.P (by decide))).tr (hF6.P (by decide))).tr hF7.P).tr hF8.P)⟩
theorem imX7_powmod {l : Launch} {Z : ZT} (hZ : ZOk Z) : Impl l Z yX7_powmod cX7_powmod 8 (some .int) 7 (cX4 pwmF (zN Z)) := mkImpl (rt := 1) (CL := [(161, some 1, (c_areLive (zN Z))), (100, some 1, (c_isLiveX (zN Z))), (82, none, c_max), (180, some 1, (c_takeA (zN Z))), (113, some 1, (c_readX (zN Z))), (215, some 0, c_raise), (169, some 1, (c_come (zN Z)))]) hZ.1 hZ.2.1 (by decide +kernel) kX7_powmod fwX7 iwX7 lwX7 trivial (Nat.le_of_ble_eq_true rfl) (List.forall_mem_cons.mpr ⟨gX7_161 hZ (by decide), List.forall_mem_cons.mpr ⟨gX7_100 hZ (by decide), List.forall_mem_cons.mpr ⟨gX7_82 hZ (by decide), List.forall_mem_cons.mpr ⟨gX7_180 hZ (by decide), List.forall_mem_cons.mpr ⟨gX7_113 hZ (by decide), List.forall_mem_cons.mpr ⟨gX7_215 hZ (by decide), List.forall_mem_cons.mpr ⟨gX7_169 hZ (by decide), fun q h => absurd h List.not_mem_nil⟩⟩⟩⟩⟩⟩⟩) ((v_powmodX (zN Z)))
theorem v_jacobiX (n : Nn) : Ver tX7_jacobi (fdX7, icX7, lcX7, [(161, some 1, c_areLive n), (123, some 1, c_limbOf n), (180, some 1, c_takeA n), (212, some 1, c_drop n), (113, some 1, c_readX n), (235, some 0, c_jacS)]) 1 3 n (cX2 jacF n) := by
  rintro ⟨q, a, m⟩ vs M0 ⟨rfl, ia, im, R⟩ aw run
  have l5 : lnF n 5 = n.1 := rfl
  change aw 0 [some (.inr (.inr 0)), some (.inl a), some (.inl m)] [] M0
  refine run 90 [71] _ _ _ _ ?_
  refine And.intro rfl (And.intro rfl ⟨(0, q, a, m, m), ⟨rfl, ia, im, im, R⟩, ?_⟩)
  rintro x M0 ⟨⟨rfl, L⟩ | ⟨rfl, L⟩, rfl⟩
  rotate_left
  · refine And.intro ⟨⟨by omega, by omega⟩, ⟨by omega, by omega⟩⟩ (And.intro (fun c1 => absurd c1 (by omega)) (fun _ => ?_))
    refine Or.inl ?_
    show -2 = ((jacF n q a m)).1 ∧ XN n M0 0 ((jacF n q a m)).2 ∧ FP M0 M0
    rw [show (jacF n q a m) = (-2, q) from if_neg (fun z => L ⟨z.1, z.2, z.2⟩)]
    exact ⟨rfl, R, FP.rf _⟩
  refine And.intro ⟨⟨by omega, by omega⟩, ⟨by omega, by omega⟩⟩ (And.intro (fun _ => ?_) (fun c2 => absurd c2 (by omega)))
  obtain ⟨ha, hm, -⟩ := L
  obtain ⟨a, rfl, a_1, a_2⟩ := ha.nat
  have Aa := R.at a_1 a_2
  obtain ⟨m, rfl, m_1, m_2⟩ := hm.nat
  have Am := R.at m_1 m_2
  have L0 := And.intro (Lv.of a_1 a_2) (Lv.of m_1 m_2)
  have e : jacF n q a m = (if q.2.2.2 m % 2 = 0 then (-3, q) else tcR n 0 q ((nd (q.2.2.2 a) : Nat) : Int) (fun t1 q1 => tcR n t1 q1 ((nd (q.2.2.2 m) : Nat) : Int) (fun _ q2 => (jcV (q.2.2.2 a) (q.2.2.2 m), drR n q2)))) := if_pos L0
  have na : nd (q.2.2.2 a) ≤ 64 := by omega
  have nm : nd (q.2.2.2 m) ≤ 64 := by omega
  refine And.intro rfl (And.intro rfl ⟨(0, q, m, 0), ⟨rfl, ⟨by omega, by omega⟩, m_1, m_2, R⟩, ?_⟩)
  rintro x M0 ⟨rfl, rfl⟩
  rw [dgZ_0]
  refine And.intro ⟨by omega, by omega, ⟨by omega, by omega⟩, ⟨by omega, by omega⟩⟩ ?_
  refine And.intro ⟨⟨by omega, by omega⟩, ⟨by omega, by omega⟩⟩ (And.intro (fun c1 => ?_) (fun c2 => ?_))
  rotate_left
  · refine Or.inl ?_
    show -3 = ((jacF n q a m)).1 ∧ XN n M0 0 ((jacF n q a m)).2 ∧ FP M0 M0
    rw [e, if_pos (by omega)]
    exact ⟨rfl, R, FP.rf _⟩
  have m0 : q.2.2.2 m ≠ 0 := fun z => by rw [z] at c1; omega
  rw [if_neg (by omega)] at e
  have no : ∀ (M : Mem) (qx : RS), jacF n q a m = (-4, qx) → XN n M 0 qx → FP M0 M → aw 71 [some (.inr (.inr 0)), some (.inl (a : Int)), some (.inl (m : Int))] [] M := by
    intro M qx he RM fM
    refine run 60 [] _ _ _ _ ?_
    refine Or.inl ?_
    show -4 = ((jacF n q a m)).1 ∧ XN n M 0 ((jacF n q a m)).2 ∧ FP M0 M
    rw [he]
    exact ⟨rfl, RM, fM⟩
  refine And.intro rfl (And.intro rfl (And.intro rfl (And.intro ⟨rfl, by omega, by omega⟩ ?_)))
  conv => whnf
  rw [Int.toNat_natCast, Aa.2.2.2.2.1]
  refine And.intro rfl ⟨(0, q, (nd (q.2.2.2 a) : Int)), ⟨rfl, R, by omega, by omega, by omega⟩, ?_⟩
  rintro x M1 ⟨tk1, q1, ho1, R1, rk1, vk1, hF1⟩
  rcases ho1 with ⟨rfl, ht1, hu1⟩ | ⟨rfl, ht1, hu1⟩
  rotate_left
  · refine And.intro ⟨⟨by omega, by omega⟩, ⟨by omega, by omega⟩⟩ (And.intro (fun _ => ?_) (fun c2 => absurd c2 (by omega)))
    subst ht1
    exact And.intro (no M1 q1 (e.trans (hu1 _)) R1 hF1.P) trivial
  refine And.intro ⟨⟨by omega, by omega⟩, ⟨by omega, by omega⟩⟩ (And.intro (fun c1 => absurd c1 (by omega)) (fun _ => ?_))
  have m2 : 0 < q1.2.1 m := by rw [rk1 m m_1]; exact m_2
  have Bm := (R1.at m_1 m2).2.2.2.2.1
  rw [vk1] at Bm
  refine And.intro rfl (And.intro rfl (And.intro rfl (And.intro ⟨rfl, by omega, by omega⟩ ?_)))
  conv => whnf
  rw [Int.toNat_natCast, Bm]
  refine And.intro rfl ⟨(tk1, q1, (nd (q.2.2.2 m) : Int)), ⟨rfl, R1, by omega, by omega, by omega⟩, ?_⟩
  rintro x M2 ⟨tk2, q2, ho2, R2, rk2, vk2, hF2⟩
  rcases ho2 with ⟨rfl, ht2, hu2⟩ | ⟨rfl, ht2, hu2⟩
  rotate_left
  · refine And.intro ⟨⟨by omega, by omega⟩, ⟨by omega, by omega⟩⟩ (And.intro (fun c1 => absurd c1 (by omega)) (fun _ => ?_))
    subst ht2
    exact And.intro (no M2 q2 (e.trans ((hu1 _).trans (hu2 _))) R2 (hF1.P.tr hF2.P)) trivial
  refine And.intro ⟨⟨by omega, by omega⟩, ⟨by omega, by omega⟩⟩ (And.intro (fun _ => ?_) (fun c2 => absurd c2 (by omega)))
  have e2 := e.trans ((hu1 _).trans (hu2 _))
  refine And.intro rfl (And.intro rfl ⟨(tk2, q2), ⟨rfl, R2⟩, ?_⟩)
  rintro M3 ⟨R3, hF3⟩
  have vk : (drR n q2).2.2.2 = q.2.2.2 := vk2.trans vk1
  have a3 : 0 < (drR n q2).2.1 a := by
    show 0 < if a < n.1 then q2.2.1 a else 0
    rw [if_pos a_1, rk2 a a_1, rk1 a a_1]
    exact a_2
  have m3 : 0 < (drR n q2).2.1 m := by
    show 0 < if m < n.1 then q2.2.1 m else 0
    rw [if_pos m_1, rk2 m m_1, rk1 m m_1]
    exact m_2
  refine And.intro rfl (And.intro rfl (And.intro rfl ⟨(0, (drR n q2), a, 21), ⟨rfl, by decide, a_1, a3, R3⟩, ?_⟩))
  rintro M4 ⟨hX4, hF4⟩
  have R4 := R3.fx hF4 (by decide)
  refine And.intro rfl (And.intro rfl (And.intro rfl ⟨(0, (drR n q2), m, 23), ⟨rfl, by decide, m_1, m3, R4⟩, ?_⟩))
  rintro M5 ⟨hX5, hF5⟩
  have R5 := R4.fx hF5 (by decide)
  rw [vk] at hX4 hX5
  refine And.intro rfl (And.intro rfl (And.intro rfl (And.intro rfl ⟨(21, 23, q.2.2.2 a, q.2.2.2 m), ⟨rfl, by decide, by decide, hF5.keep (by decide) (by decide) (by decide) hX4, na, hX5, nm, m0⟩, ?_⟩)))
  rintro x M6 ⟨rfl, hF6⟩
  refine Or.inl ?_
  show (jcV (q.2.2.2 a) (q.2.2.2 m) - 1 + 1) = ((jacF n q a m)).1 ∧ XN n M6 0 ((jacF n q a m)).2 ∧ FP M0 M6
  rw [e2]
  exact ⟨Int.sub_add_cancel _ _, R5.fk hF6, ((((hF1.P.tr hF2.P).tr hF3.P).tr (hF4.P (by decide))).tr (hF5.P (by decide))).tr hF6.P⟩
theorem imX7_jacobi {l : Launch} {Z : ZT} (hZ : ZOk Z) : Impl l Z yX7_jacobi cX7_jacobi 3 (some .int) 6 (cX2 jacF (zN Z)) := mkImpl (rt := 1) (CL := [(161, some 1, (c_areLive (zN Z))), (123, some 1, (c_limbOf (zN Z))), (180, some 1, (c_takeA (zN Z))), (212, some 1, (c_drop (zN Z))), (113, some 1, (c_readX (zN Z))), (235, some 0, c_jacS)]) hZ.1 hZ.2.1 (by decide +kernel) kX7_jacobi fwX7 iwX7 lwX7 trivial (Nat.le_of_ble_eq_true rfl) (List.forall_mem_cons.mpr ⟨gX7_161 hZ (by decide), List.forall_mem_cons.mpr ⟨gX7_123 hZ (by decide), List.forall_mem_cons.mpr ⟨gX7_180 hZ (by decide), List.forall_mem_cons.mpr ⟨gX7_212 hZ (by decide), List.forall_mem_cons.mpr ⟨gX7_113 hZ (by decide), List.forall_mem_cons.mpr ⟨gX7_235 hZ (by decide), fun q h => absurd h List.not_mem_nil⟩⟩⟩⟩⟩⟩) ((v_jacobiX (zN Z)))
