/-! ===== the reference: powmod, gcd ===== -/
/-- the scratch rows -/
abbrev SCL : List Nat := [24, 25, 26, 27, 28, 29, 30, 31, 32, 33, 34, 35, 36]
theorem SCL_ge : ∀ s ∈ SCL, 24 ≤ s := by decide
theorem FrT.mh {M M' : Mem} {s v : Nat} (hF : FrT M M') (h : MH M s v) : MH M' s v := h.ft (hF.1 51 (by decide) (by decide) (by decide) (by decide)) (hF.1 52 (by decide) (by decide) (by decide) (by decide))
theorem nin5 {a : Nat} (h : a < 24) : a ∉ [30, 31, 35, 36, 24] := by
  simp only [List.mem_cons, List.not_mem_nil, or_false, not_or]
  omega
def pwmF (n : Nn) (q : RS) (d a k m : Int) : Int × RS := if Lv n q d ∧ Lv n q a ∧ Lv n q k ∧ Lv n q m then (if q.2.2.2 m.toNat = 0 then (-6, q) else tcR n 0 q ((nd (q.2.2.2 m.toNat) : Nat) : Int) (fun t1 q1 => tcR n t1 q1 ((nd (q.2.2.2 m.toNat) : Nat) : Int) (fun t2 q2 => tcR n t2 q2 ((max (nd (q.2.2.2 a.toNat)) (2 * nd (q.2.2.2 m.toNat)) + 1 : Nat) : Int) (fun t3 q3 => cmR n t3 q3 d.toNat (q.2.2.2 a.toNat ^ q.2.2.2 k.toNat % q.2.2.2 m.toNat))))) else (-2, q)
theorem v_powmod (n0 : Nn) : Ver tX8_powmod (fdX8, icX8, lcX8, [(138, some 8, c_isLiveL), (131, some 8, c_take), (159, some 8, c_power), (153, some 8, c_comes)]) 1 7 n0 (cN4 pwmF) := by
  rintro ⟨n, q, d, a, k, m⟩ vs M0 ⟨rfl, id, ia, ik, im, R⟩ aw run
  have l52 : lnF n0 52 = 37 := rfl
  have l54 : lnF n0 54 = 24 := rfl
  have l55 : lnF n0 55 = 24 := rfl
  have bad : ¬ (Lv n q d ∧ Lv n q a ∧ Lv n q k ∧ Lv n q m) → aw 33 [some (.inr (.inr 50)), some (.inl d), some (.inl a), some (.inl k), some (.inl m), none, none] [] M0 := by
    intro hb
    have e : pwmF n q d a k m = (-2, q) := if_neg hb
    refine run 60 [] _ _ _ _ ?_
    refine Or.inl ?_
    show -2 = (pwmF n q d a k m).1 ∧ RN n M0 0 (pwmF n q d a k m).2 ∧ FN M0 M0
    rw [e]
    exact ⟨rfl, R, FN.rf _⟩
  change aw 0 [some (.inr (.inr 50)), some (.inl d), some (.inl a), some (.inl k), some (.inl m), none, none] [] M0
  refine run 90 [33, 84] _ _ _ _ ?_
  refine And.intro rfl ⟨(n, 0, q, d), ⟨rfl, id, R⟩, ?_⟩
  rintro x M0 ⟨⟨rfl, hd⟩ | ⟨rfl, hd⟩, rfl⟩
  rotate_left
  · refine And.intro ⟨⟨by omega, by omega⟩, ⟨by omega, by omega⟩⟩ (And.intro (fun _ => ?_) (fun c2 => absurd c2 (by omega)))
    exact And.intro (bad (fun z => hd z.1)) trivial
  refine And.intro ⟨⟨by omega, by omega⟩, ⟨by omega, by omega⟩⟩ (And.intro (fun c1 => absurd c1 (by omega)) (fun _ => ?_))
  refine And.intro rfl ⟨(n, 0, q, a), ⟨rfl, ia, R⟩, ?_⟩
  rintro x M0 ⟨⟨rfl, ha⟩ | ⟨rfl, ha⟩, rfl⟩
  rotate_left
  · refine And.intro ⟨⟨by omega, by omega⟩, ⟨by omega, by omega⟩⟩ (And.intro (fun _ => ?_) (fun c2 => absurd c2 (by omega)))
    exact And.intro (bad (fun z => ha z.2.1)) trivial
  refine And.intro ⟨⟨by omega, by omega⟩, ⟨by omega, by omega⟩⟩ (And.intro (fun c1 => absurd c1 (by omega)) (fun _ => ?_))
  refine And.intro rfl ⟨(n, 0, q, k), ⟨rfl, ik, R⟩, ?_⟩
  rintro x M0 ⟨⟨rfl, hk⟩ | ⟨rfl, hk⟩, rfl⟩
  rotate_left
  · refine And.intro ⟨⟨by omega, by omega⟩, ⟨by omega, by omega⟩⟩ (And.intro (fun _ => ?_) (fun c2 => absurd c2 (by omega)))
    exact And.intro (bad (fun z => hk z.2.2.1)) trivial
  refine And.intro ⟨⟨by omega, by omega⟩, ⟨by omega, by omega⟩⟩ (And.intro (fun c1 => absurd c1 (by omega)) (fun _ => ?_))
  refine And.intro rfl ⟨(n, 0, q, m), ⟨rfl, im, R⟩, ?_⟩
  rintro x M0 ⟨⟨rfl, hm⟩ | ⟨rfl, hm⟩, rfl⟩
  rotate_left
  · refine And.intro ⟨⟨by omega, by omega⟩, ⟨by omega, by omega⟩⟩ (And.intro (fun c1 => absurd c1 (by omega)) (fun _ => ?_))
    exact And.intro (bad (fun z => hm z.2.2.2)) trivial
  refine And.intro ⟨⟨by omega, by omega⟩, ⟨by omega, by omega⟩⟩ (And.intro (fun _ => ?_) (fun c2 => absurd c2 (by omega)))
  have b2 := R.n24
  obtain ⟨d, rfl, d_1, d_2⟩ := hd.nat
  have Ad := R.at d_1 d_2
  obtain ⟨a, rfl, a_1, a_2⟩ := ha.nat
  have Aa := R.at a_1 a_2
  obtain ⟨k, rfl, k_1, k_2⟩ := hk.nat
  have Ak := R.at k_1 k_2
  obtain ⟨m, rfl, m_1, m_2⟩ := hm.nat
  have Am := R.at m_1 m_2
  have L0 := And.intro (Lv.of d_1 d_2) (And.intro (Lv.of a_1 a_2) (And.intro (Lv.of k_1 k_2) (Lv.of m_1 m_2)))
  have e : pwmF n q d a k m = (if q.2.2.2 m = 0 then (-6, q) else tcR n 0 q ((nd (q.2.2.2 m) : Nat) : Int) (fun t1 q1 => tcR n t1 q1 ((nd (q.2.2.2 m) : Nat) : Int) (fun t2 q2 => tcR n t2 q2 ((max (nd (q.2.2.2 a)) (2 * nd (q.2.2.2 m)) + 1 : Nat) : Int) (fun t3 q3 => cmR n t3 q3 d (q.2.2.2 a ^ q.2.2.2 k % q.2.2.2 m))))) := if_pos L0
  have ea := Aa.2.2.2.2.2.2.2
  have em := Am.2.2.2.2.2.2.2
  have hz := nd_z (v := q.2.2.2 m)
  have go : q.2.2.2 m ≠ 0 → aw 84 [some (.inr (.inr 50)), some (.inl (d : Int)), some (.inl (a : Int)), some (.inl (k : Int)), some (.inl (m : Int)), some (.inl (nd (q.2.2.2 m) : Int)), none] [.inl ((max (nd (q.2.2.2 a)) (2 * nd (q.2.2.2 m)) : Nat) : Int)] M0 := by
    intro hm0
    rw [if_neg hm0] at e
    have hnd : nd (q.2.2.2 a ^ q.2.2.2 k % q.2.2.2 m) ≤ nd (q.2.2.2 m) := nd_md hm0
    refine run 60 [] _ _ _ _ ?_
    refine And.intro rfl ⟨(n, 0, (q).1, (q).2.1, (nd (q.2.2.2 m) : Int)), ⟨rfl, R.1, by omega, by omega, by omega⟩, ?_⟩
    rintro x M1 hp1
    obtain ⟨tk1, pl1, rm1, sl1, ho1, ht1, R1, rk1, hF1⟩ := R.take hp1
    clear hp1
    rcases ho1 with ⟨rfl, hu1⟩ | ⟨rfl, h0, hu1⟩
    rotate_left
    · refine And.intro ⟨⟨by omega, by omega⟩, ⟨by omega, by omega⟩⟩ (And.intro (fun _ => ?_) (fun c2 => absurd c2 (by omega)))
      refine Or.inl ?_
      show -4 = ((pwmF n q d a k m)).1 ∧ RN n M1 0 ((pwmF n q d a k m)).2 ∧ FN M0 M1
      rw [e, hu1]
      subst h0
      exact ⟨rfl, R1, hF1.N⟩
    refine And.intro ⟨⟨by omega, by omega⟩, ⟨by omega, by omega⟩⟩ (And.intro (fun c1 => absurd c1 (by omega)) (fun _ => ?_))
    refine And.intro rfl ⟨(n, tk1, (((pl1, rm1, sl1, q.2.2.2) : RS)).1, (((pl1, rm1, sl1, q.2.2.2) : RS)).2.1, (nd (q.2.2.2 m) : Int)), ⟨rfl, R1.1, by omega, by omega, by omega⟩, ?_⟩
    rintro x M2 hp2
    obtain ⟨tk2, pl2, rm2, sl2, ho2, ht2, R2, rk2, hF2⟩ := R1.take hp2
    clear hp2
    rcases ho2 with ⟨rfl, hu2⟩ | ⟨rfl, h0, hu2⟩
    rotate_left
    · refine And.intro ⟨⟨by omega, by omega⟩, ⟨by omega, by omega⟩⟩ (And.intro (fun _ => ?_) (fun c2 => absurd c2 (by omega)))
      refine Or.inl ?_
      show -4 = ((pwmF n q d a k m)).1 ∧ RN n M2 0 ((pwmF n q d a k m)).2 ∧ FN M0 M2
      rw [e.trans ((hu1 _).trans (hu2 _))]
      subst h0
      exact ⟨rfl, R2, hF1.N.tr hF2.N⟩
    refine And.intro ⟨⟨by omega, by omega⟩, ⟨by omega, by omega⟩⟩ (And.intro (fun c1 => absurd c1 (by omega)) (fun _ => ?_))
    refine And.intro rfl ⟨(n, tk2, (((pl2, rm2, sl2, q.2.2.2) : RS)).1, (((pl2, rm2, sl2, q.2.2.2) : RS)).2.1, ((max (nd (q.2.2.2 a)) (2 * nd (q.2.2.2 m)) + 1 : Nat) : Int)), ⟨rfl, R2.1, by omega, by omega, by omega⟩, ?_⟩
    rintro x M3 hp3
    obtain ⟨tk3, pl3, rm3, sl3, ho3, ht3, R3, rk3, hF3⟩ := R2.take hp3
    clear hp3
    rcases ho3 with ⟨rfl, hu3⟩ | ⟨rfl, h0, hu3⟩
    rotate_left
    · refine And.intro ⟨⟨by omega, by omega⟩, ⟨by omega, by omega⟩⟩ (And.intro (fun c1 => absurd c1 (by omega)) (fun _ => ?_))
      refine Or.inl ?_
      show -4 = ((pwmF n q d a k m)).1 ∧ RN n M3 0 ((pwmF n q d a k m)).2 ∧ FN M0 M3
      rw [e.trans ((hu1 _).trans ((hu2 _).trans (hu3 _)))]
      subst h0
      exact ⟨rfl, R3, (hF1.N.tr hF2.N).tr hF3.N⟩
    refine And.intro ⟨⟨by omega, by omega⟩, ⟨by omega, by omega⟩⟩ (And.intro (fun _ => ?_) (fun c2 => absurd c2 (by omega)))
    have a3 : 0 < rm3 a := ltE (ltE (ltE a_2 (rk1 a a_1)) (rk2 a a_1)) (rk3 a a_1)
    have k3 : 0 < rm3 k := ltE (ltE (ltE k_2 (rk1 k k_1)) (rk2 k k_1)) (rk3 k k_1)
    have m3 : 0 < rm3 m := ltE (ltE (ltE m_2 (rk1 m m_1)) (rk2 m m_1)) (rk3 m m_1)
    have d3 : 0 < rm3 d := ltE (ltE (ltE d_2 (rk1 d d_1)) (rk2 d d_1)) (rk3 d d_1)
    refine And.intro rfl ⟨(a, k, m, 24, q.2.2.2 a, q.2.2.2 k, q.2.2.2 m), ⟨rfl, by omega, by omega, by omega, by omega, nin5 (by omega), nin5 (by omega), nin5 (by omega), by decide, (R3.at a_1 a3).2.2.2.1, by omega, (R3.at k_1 k3).2.2.2.1, by omega, (R3.at m_1 m3).2.2.2.1, by omega, hm0⟩, ?_⟩
    rintro M4 ⟨hM4, hF4⟩
    have R4 := R3.fl hF4 (by decide)
    refine And.intro rfl ⟨(n, tk3, pl3, rm3, 24, d, q.2.2.2 a ^ q.2.2.2 k % q.2.2.2 m), ⟨rfl, R4.1, by omega, d_1, (R4.at d_1 d3).1, by omega, by omega, hM4, by omega⟩, ?_⟩
    rintro x M5 hp
    obtain ⟨c1, c2, c3⟩ := R4.com d_1 d3 (by omega) hp
    refine Or.inl ?_
    show x = ((pwmF n q d a k m)).1 ∧ RN n M5 0 ((pwmF n q d a k m)).2 ∧ FN M0 M5
    rw [e.trans ((hu1 _).trans ((hu2 _).trans (hu3 _)))]
    exact ⟨c1, c2, (((hF1.N.tr hF2.N).tr hF3.N).tr hF4.N).tr c3⟩
  refine And.intro rfl (And.intro ⟨rfl, by omega, by omega⟩ ?_)
  conv => whnf
  rw [Int.toNat_natCast, em]
  refine And.intro ⟨⟨by omega, by omega⟩, ⟨by omega, by omega⟩⟩ (And.intro (fun c1 => ?_) (fun c2 => ?_))
  rotate_left
  · refine Or.inl ?_
    show -6 = ((pwmF n q d a k m)).1 ∧ RN n M0 0 ((pwmF n q d a k m)).2 ∧ FN M0 M0
    rw [e, if_pos (by omega)]
    exact ⟨rfl, R, FN.rf _⟩
  refine And.intro rfl (And.intro ⟨rfl, by omega, by omega⟩ ?_)
  refine And.intro rfl (And.intro ⟨rfl, by omega, by omega⟩ ?_)
  conv => whnf
  rw [Int.toNat_natCast, Int.toNat_natCast, ea, em]
  refine And.intro ⟨⟨by omega, by omega⟩, ⟨by omega, by omega⟩⟩ (And.intro (fun c1 => ?_) (fun c2 => ?_))
  · refine And.intro ?_ trivial
    rw [show (2 : Int) * (nd (q.2.2.2 m) : Int) = ((max (nd (q.2.2.2 a)) (2 * nd (q.2.2.2 m)) : Nat) : Int) by omega]
    exact go (by omega)
  · refine And.intro rfl (And.intro ⟨rfl, by omega, by omega⟩ ?_)
    refine And.intro ?_ trivial
    rw [Int.toNat_natCast, ea, show (nd (q.2.2.2 a) : Int) = ((max (nd (q.2.2.2 a)) (2 * nd (q.2.2.2 m)) : Nat) : Int) by omega]
    exact go (by omega)
theorem imX8_powmod {l : Launch} {Z : ZT} (hZ : ZOk Z) : Impl l Z yX8_powmod cX8_powmod 7 (some .int) 5 (cN4 pwmF) := mkImpl (rt := 1) (CL := [(138, some 8, c_isLiveL), (131, some 8, c_take), (159, some 8, c_power), (153, some 8, c_comes)]) hZ.1 hZ.2.1 (by decide +kernel) kX8_powmod fwX8 iwX8 lwX8 trivial (Nat.le_of_ble_eq_true rfl) (List.forall_mem_cons.mpr ⟨gX8_138_L hZ (by decide), List.forall_mem_cons.mpr ⟨gX8_131 hZ (by decide), List.forall_mem_cons.mpr ⟨gX8_159 hZ (by decide), List.forall_mem_cons.mpr ⟨gX8_153 hZ (by decide), fun q h => absurd h List.not_mem_nil⟩⟩⟩⟩) ((v_powmod _))
def gcdF (n : Nn) (q : RS) (d a b : Int) : Int × RS := if Lv n q d ∧ Lv n q a ∧ Lv n q b then tcR n 0 q ((2 * max (nd (q.2.2.2 a.toNat)) (nd (q.2.2.2 b.toNat)) : Nat) : Int) (fun t1 q1 => cmR n t1 q1 d.toNat (Nat.gcd (q.2.2.2 a.toNat) (q.2.2.2 b.toNat))) else (-2, q)
theorem v_gcd (n0 : Nn) : Ver tX8_gcd (fdX8, icX8, lcX8, [(138, some 8, c_isLiveL), (131, some 8, c_take), (101, some 8, c_copy), (97, some 8, c_divide), (153, some 8, c_comes)]) 1 4 n0 (cN3 gcdF) := by
  rintro ⟨n, q, d, a, b⟩ vs M0 ⟨rfl, id, ia, ib, R⟩ aw run
  have l52 : lnF n0 52 = 37 := rfl
  have l54 : lnF n0 54 = 24 := rfl
  have l55 : lnF n0 55 = 24 := rfl
  have bad : ¬ (Lv n q d ∧ Lv n q a ∧ Lv n q b) → aw 24 [some (.inr (.inr 50)), some (.inl d), some (.inl a), some (.inl b)] [] M0 := by
    intro hb
    have e : gcdF n q d a b = (-2, q) := if_neg hb
    refine run 60 [] _ _ _ _ ?_
    refine Or.inl ?_
    show -2 = (gcdF n q d a b).1 ∧ RN n M0 0 (gcdF n q d a b).2 ∧ FN M0 M0
    rw [e]
    exact ⟨rfl, R, FN.rf _⟩
  change aw 0 [some (.inr (.inr 50)), some (.inl d), some (.inl a), some (.inl b)] [] M0
  refine run 90 [24, 59] _ _ _ _ ?_
  refine And.intro rfl ⟨(n, 0, q, d), ⟨rfl, id, R⟩, ?_⟩
  rintro x M0 ⟨⟨rfl, hd⟩ | ⟨rfl, hd⟩, rfl⟩
  rotate_left
  · refine And.intro ⟨⟨by omega, by omega⟩, ⟨by omega, by omega⟩⟩ (And.intro (fun _ => ?_) (fun c2 => absurd c2 (by omega)))
    exact And.intro (bad (fun z => hd z.1)) trivial
  refine And.intro ⟨⟨by omega, by omega⟩, ⟨by omega, by omega⟩⟩ (And.intro (fun c1 => absurd c1 (by omega)) (fun _ => ?_))
  refine And.intro rfl ⟨(n, 0, q, a), ⟨rfl, ia, R⟩, ?_⟩
  rintro x M0 ⟨⟨rfl, ha⟩ | ⟨rfl, ha⟩, rfl⟩
  rotate_left
  · refine And.intro ⟨⟨by omega, by omega⟩, ⟨by omega, by omega⟩⟩ (And.intro (fun _ => ?_) (fun c2 => absurd c2 (by omega)))
    exact And.intro (bad (fun z => ha z.2.1)) trivial
  refine And.intro ⟨⟨by omega, by omega⟩, ⟨by omega, by omega⟩⟩ (And.intro (fun c1 => absurd c1 (by omega)) (fun _ => ?_))
  refine And.intro rfl ⟨(n, 0, q, b), ⟨rfl, ib, R⟩, ?_⟩
  rintro x M0 ⟨⟨rfl, hb⟩ | ⟨rfl, hb⟩, rfl⟩
  rotate_left
  · refine And.intro ⟨⟨by omega, by omega⟩, ⟨by omega, by omega⟩⟩ (And.intro (fun c1 => absurd c1 (by omega)) (fun _ => ?_))
    exact And.intro (bad (fun z => hb z.2.2)) trivial
  refine And.intro ⟨⟨by omega, by omega⟩, ⟨by omega, by omega⟩⟩ (And.intro (fun _ => ?_) (fun c2 => absurd c2 (by omega)))
  have b2 := R.n24
  obtain ⟨d, rfl, d_1, d_2⟩ := hd.nat
  have Ad := R.at d_1 d_2
  obtain ⟨a, rfl, a_1, a_2⟩ := ha.nat
  have Aa := R.at a_1 a_2
  obtain ⟨b, rfl, b_1, b_2⟩ := hb.nat
  have Ab := R.at b_1 b_2
  have L0 := And.intro (Lv.of d_1 d_2) (And.intro (Lv.of a_1 a_2) (Lv.of b_1 b_2))
  have e : gcdF n q d a b = tcR n 0 q ((2 * max (nd (q.2.2.2 a)) (nd (q.2.2.2 b)) : Nat) : Int) (fun t1 q1 => cmR n t1 q1 d (Nat.gcd (q.2.2.2 a) (q.2.2.2 b))) := if_pos L0
  have ea := Aa.2.2.2.2.2.2.2
  have eb := Ab.2.2.2.2.2.2.2
  have go : aw 59 [some (.inr (.inr 50)), some (.inl (d : Int)), some (.inl (a : Int)), some (.inl (b : Int))] [.inl ((max (nd (q.2.2.2 a)) (nd (q.2.2.2 b)) : Nat) : Int), .inl 2, .inr (.inr 50)] M0 := by
    refine run 60 [83] _ _ _ _ ?_
    refine And.intro rfl ⟨(n, 0, (q).1, (q).2.1, ((2 * max (nd (q.2.2.2 a)) (nd (q.2.2.2 b)) : Nat) : Int)), ⟨rfl, R.1, by omega, by omega, by omega⟩, ?_⟩
    rintro x M1 hp1
    obtain ⟨tk1, pl1, rm1, sl1, ho1, ht1, R1, rk1, hF1⟩ := R.take hp1
    clear hp1
    rcases ho1 with ⟨rfl, hu1⟩ | ⟨rfl, h0, hu1⟩
    rotate_left
    · refine And.intro ⟨⟨by omega, by omega⟩, ⟨by omega, by omega⟩⟩ (And.intro (fun c1 => absurd c1 (by omega)) (fun _ => ?_))
      refine Or.inl ?_
      show -4 = ((gcdF n q d a b)).1 ∧ RN n M1 0 ((gcdF n q d a b)).2 ∧ FN M0 M1
      rw [e, hu1]
      subst h0
      exact ⟨rfl, R1, hF1.N⟩
    refine And.intro ⟨⟨by omega, by omega⟩, ⟨by omega, by omega⟩⟩ (And.intro (fun _ => ?_) (fun c2 => absurd c2 (by omega)))
    have d1 : 0 < rm1 d := ltE d_2 (rk1 d d_1)
    have loop : ∀ (y x : Nat) (M : Mem), Nat.gcd x y = Nat.gcd (q.2.2.2 a) (q.2.2.2 b) → nd x ≤ 64 → nd y ≤ 64 → MH M 24 x → MH M 25 y → RN n M tk1 (pl1, rm1, sl1, q.2.2.2) → FN M0 M → aw 83 [some (.inr (.inr 50)), some (.inl (d : Int)), some (.inl (a : Int)), some (.inl (b : Int))] [] M := by
      intro y
      induction y using Nat.strongRecOn with
      | ind y ih =>
      intro x M hg nx ny hx hy RM fM
      refine run 60 [83] _ _ _ _ ?_
      refine And.intro rfl (And.intro ⟨rfl, by omega, by omega⟩ ?_)
      conv => whnf
      rw [show ((25 : Int)).toNat = 25 from rfl, hy.1]
      refine And.intro ⟨⟨by omega, by omega⟩, ⟨by omega, by omega⟩⟩ (And.intro (fun c1 => ?_) (fun c2 => ?_))
      · have y0 : y = 0 := nd_z.mp (by omega)
        subst y0
        rw [Nat.gcd_zero_right] at hg
        subst hg
        refine And.intro rfl ⟨(n, tk1, pl1, rm1, 24, d, _), ⟨rfl, RM.1, by omega, d_1, (RM.at d_1 d1).1, by omega, by omega, hx, by omega⟩, ?_⟩
        rintro x M2 hp
        obtain ⟨c1, c2, c3⟩ := RM.com d_1 d1 nx hp
        refine Or.inl ?_
        show x = ((gcdF n q d a b)).1 ∧ RN n M2 0 ((gcdF n q d a b)).2 ∧ FN M0 M2
        rw [e, hu1]
        exact ⟨c1, c2, fM.tr c3⟩
      · have y0 : y ≠ 0 := fun z => by rw [z, nd_0] at c2; omega
        refine And.intro rfl ⟨(24, 25, 31, 26, x, y), ⟨rfl, by omega, by omega, by omega, by omega, by omega, by omega, by omega, by omega, by omega, hx, by omega, hy, by omega, y0⟩, ?_⟩
        rintro M2 ⟨_, hz2, hF2⟩
        have hy2 := hF2.keep (by omega) (by omega) hy (by omega)
        have nz : nd (x % y) ≤ nd y := nd_md y0
        refine And.intro rfl ⟨(25, 24, y), ⟨rfl, by omega, by omega, hy2, by omega⟩, ?_⟩
        rintro M3 ⟨hx3, hF3⟩
        have hz3 := hF3.keep (by omega) hz2 (by omega)
        refine And.intro rfl ⟨(26, 25, x % y), ⟨rfl, by omega, by omega, hz3, by omega⟩, ?_⟩
        rintro M4 ⟨hy4, hF4⟩
        have hx4 := hF4.keep (by omega) hx3 (by omega)
        have fl : FrL M M4 SCL := ((hF2.L (by decide) (by decide)).tr (hF3.L (by decide))).tr (hF4.L (by decide))
        refine And.intro ?_ trivial
        refine ih (x % y) (Nat.mod_lt _ (Nat.pos_of_ne_zero y0)) y M4 ?_ ny (by omega) hx4 hy4 (RM.fl fl SCL_ge) (fM.tr fl.N)
        rw [← hg, Nat.gcd_comm x y, Nat.gcd_rec y x, Nat.gcd_comm]
    have Aa1 := R1.at a_1 (ltE a_2 (rk1 a a_1))
    refine And.intro rfl ⟨(a, 24, q.2.2.2 a), ⟨rfl, by omega, by omega, Aa1.2.2.2.1, by omega⟩, ?_⟩
    rintro M2 ⟨hx2, hF2⟩
    have R2 := R1.fm hF2 (by omega)
    have Ab2 := R2.at b_1 (ltE b_2 (rk1 b b_1))
    refine And.intro rfl ⟨(b, 25, q.2.2.2 b), ⟨rfl, by omega, by omega, Ab2.2.2.2.1, by omega⟩, ?_⟩
    rintro M3 ⟨hy3, hF3⟩
    refine And.intro ?_ trivial
    exact loop _ _ M3 rfl (by omega) (by omega) (hF3.keep (by omega) hx2 (by omega)) hy3 (R2.fm hF3 (by omega)) ((hF1.N.tr hF2.N).tr hF3.N)
  refine And.intro rfl (And.intro ⟨rfl, by omega, by omega⟩ ?_)
  refine And.intro rfl (And.intro ⟨rfl, by omega, by omega⟩ ?_)
  conv => whnf
  rw [Int.toNat_natCast, Int.toNat_natCast, ea, eb]
  refine And.intro ⟨⟨by omega, by omega⟩, ⟨by omega, by omega⟩⟩ (And.intro (fun c1 => ?_) (fun c2 => ?_))
  · refine And.intro rfl (And.intro ⟨rfl, by omega, by omega⟩ ?_)
    refine And.intro ?_ trivial
    rw [Int.toNat_natCast, eb, show (nd (q.2.2.2 b) : Int) = ((max (nd (q.2.2.2 a)) (nd (q.2.2.2 b)) : Nat) : Int) by omega]
    exact go
  · refine And.intro rfl (And.intro ⟨rfl, by omega, by omega⟩ ?_)
    refine And.intro ?_ trivial
    rw [Int.toNat_natCast, ea, show (nd (q.2.2.2 a) : Int) = ((max (nd (q.2.2.2 a)) (nd (q.2.2.2 b)) : Nat) : Int) by omega]
    exact go
theorem imX8_gcd {l : Launch} {Z : ZT} (hZ : ZOk Z) : Impl l Z yX8_gcd cX8_gcd 4 (some .int) 4 (cN3 gcdF) := mkImpl (rt := 1) (CL := [(138, some 8, c_isLiveL), (131, some 8, c_take), (101, some 8, c_copy), (97, some 8, c_divide), (153, some 8, c_comes)]) hZ.1 hZ.2.1 (by decide +kernel) kX8_gcd fwX8 iwX8 lwX8 trivial (Nat.le_of_ble_eq_true rfl) (List.forall_mem_cons.mpr ⟨gX8_138_L hZ (by decide), List.forall_mem_cons.mpr ⟨gX8_131 hZ (by decide), List.forall_mem_cons.mpr ⟨gX8_101 hZ (by decide), List.forall_mem_cons.mpr ⟨gX8_97 hZ (by decide), List.forall_mem_cons.mpr ⟨gX8_153 hZ (by decide), fun q h => absurd h List.not_mem_nil⟩⟩⟩⟩⟩) ((v_gcd _))
