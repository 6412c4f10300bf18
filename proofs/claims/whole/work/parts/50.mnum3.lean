/-! ===== the reference: mul, powmod, gcd ===== -/
theorem vs2 {x y : Int} (h : x = y) : ([.inr (.inr 50), .inl x] : List AV) = [.inr (.inr 50), .inl y] := by rw [h]
theorem v_mul (n0 : Nn) : Ver tX8_mul (fdX8, icX8, lcX8, [(138, some 8, c_isLiveL), (108, some 8, c_product), (131, some 8, c_take), (153, some 8, c_comes)]) 1 4 n0 (cN3 mulF) := by
  rintro ⟨n, q, d, a, b⟩ vs M0 ⟨rfl, id, ia, ib, R⟩ aw run
  have l52 : lnF n0 52 = 37 := rfl
  have l54 : lnF n0 54 = 24 := rfl
  have l55 : lnF n0 55 = 24 := rfl
  have bad : ¬ (Lv n q d ∧ Lv n q a ∧ Lv n q b) → aw 24 [some (.inr (.inr 50)), some (.inl d), some (.inl a), some (.inl b)] [] M0 := by
    intro hb
    have e : mulF n q d a b = (-2, q) := if_neg hb
    refine run 60 [] _ _ _ _ ?_
    refine Or.inl ?_
    show -2 = (mulF n q d a b).1 ∧ RN n M0 0 (mulF n q d a b).2 ∧ FN M0 M0
    rw [e]
    exact ⟨rfl, R, FN.rf _⟩
  change aw 0 [some (.inr (.inr 50)), some (.inl d), some (.inl a), some (.inl b)] [] M0
  refine run 90 [24, 66] _ _ _ _ ?_
  refine And.intro rfl ⟨(n, 0, q, d), ⟨rfl, id, R⟩, ?_⟩
  rintro x M0 ⟨⟨rfl, hd⟩ | ⟨rfl, hd⟩, rfl⟩
  rotate_left
  · refine And.intro ⟨⟨by omega, by omega⟩, ⟨by omega, by omega⟩⟩ (And.intro (fun _ => ?_) (fun c2 => absurd c2 (by omega)))
    exact And.intro (bad (fun z => hd z.1)) trivial
  refine And.intro ⟨⟨by omega, by omega⟩, ⟨by omega, by omega⟩⟩ (And.intro (fun c1 => absurd c1 (by omega)) (fun _ => ?_))
  refine And.intro rfl ⟨(n, 0, q, a), ⟨rfl, ia, R⟩, ?_⟩
  rintro x M0 ⟨⟨rfl, ha⟩ | ⟨rfl, ha⟩, rfl⟩
  rotate_left
  · refine And.intro ⟨⟨by omega, by omega⟩, ⟨by omega, by omega⟩⟩ (And.intro (fun _ => ?_) (fun c2 => absurd c2 (by omega)))
    exact And.intro (bad (fun z => ha z.2.1)) trivial
  refine And.intro ⟨⟨by omega, by omega⟩, ⟨by omega, by omega⟩⟩ (And.intro (fun c1 => absurd c1 (by omega)) (fun _ => ?_))
  refine And.intro rfl ⟨(n, 0, q, b), ⟨rfl, ib, R⟩, ?_⟩
  rintro x M0 ⟨⟨rfl, hb⟩ | ⟨rfl, hb⟩, rfl⟩
  rotate_left
  · refine And.intro ⟨⟨by omega, by omega⟩, ⟨by omega, by omega⟩⟩ (And.intro (fun c1 => absurd c1 (by omega)) (fun _ => ?_))
    exact And.intro (bad (fun z => hb z.2.2)) trivial
  refine And.intro ⟨⟨by omega, by omega⟩, ⟨by omega, by omega⟩⟩ (And.intro (fun _ => ?_) (fun c2 => absurd c2 (by omega)))
  have b2 := R.n24
  obtain ⟨d, rfl, d_1, d_2⟩ := hd.nat
  have Ad := R.at d_1 d_2
  obtain ⟨a, rfl, a_1, a_2⟩ := ha.nat
  have Aa := R.at a_1 a_2
  obtain ⟨b, rfl, b_1, b_2⟩ := hb.nat
  have Ab := R.at b_1 b_2
  have L0 := And.intro (Lv.of d_1 d_2) (And.intro (Lv.of a_1 a_2) (Lv.of b_1 b_2))
  have e : mulF n q d a b = (if 0 < nd (q.2.2.2 a) ∧ 0 < nd (q.2.2.2 b) ∧ 64 < nd (q.2.2.2 a) + nd (q.2.2.2 b) then (-8, q) else tcR n 0 q ((nd (q.2.2.2 a) + nd (q.2.2.2 b) : Nat) : Int) (fun tk q1 => cmR n tk q1 d (q.2.2.2 a * q.2.2.2 b))) := if_pos L0
  have go : ¬ (0 < nd (q.2.2.2 a) ∧ 0 < nd (q.2.2.2 b) ∧ 64 < nd (q.2.2.2 a) + nd (q.2.2.2 b)) → aw 66 [some (.inr (.inr 50)), some (.inl (d : Int)), some (.inl (a : Int)), some (.inl (b : Int))] [] M0 := by
    intro hg
    rw [if_neg hg] at e
    have hnd : nd (q.2.2.2 a * q.2.2.2 b) ≤ 64 := by
      by_cases ha : q.2.2.2 a = 0
      · rw [ha, Nat.zero_mul]; exact Nat.zero_le _
      by_cases hb : q.2.2.2 b = 0
      · rw [hb, Nat.mul_zero]; exact Nat.zero_le _
      have h1 := nd_pr (q.2.2.2 a) (q.2.2.2 b)
      have h2 : nd (q.2.2.2 a) ≠ 0 := fun z => ha (nd_z.mp z)
      have h3 : nd (q.2.2.2 b) ≠ 0 := fun z => hb (nd_z.mp z)
      omega
    refine run 60 [] _ _ _ _ ?_
    refine And.intro rfl ⟨(a, b, 24, q.2.2.2 a, q.2.2.2 b), ⟨rfl, by omega, by omega, by omega, by omega, by omega, Aa.2.2.2.1, Ab.2.2.2.1, by omega⟩, ?_⟩
    rintro M1 ⟨hM1, hF1⟩
    have R1 := R.fm hF1 (by omega)
    have Aa1 := R1.at a_1 a_2
    have Ab1 := R1.at b_1 b_2
    obtain ⟨ea, eb⟩ := And.intro Aa1.2.2.2.2.2.2.2 Ab1.2.2.2.2.2.2.2
    refine And.intro rfl (And.intro ⟨rfl, by omega, by omega⟩ ?_)
    refine And.intro rfl (And.intro ⟨rfl, by omega, by omega⟩ ?_)
    conv => whnf
    rw [Int.toNat_natCast, Int.toNat_natCast, ea, eb]
    refine And.intro rfl ⟨(n, 0, (q).1, (q).2.1, ((nd (q.2.2.2 a) + nd (q.2.2.2 b) : Nat) : Int)), ⟨(by rw [Int.natCast_add]), R1.1, by omega, by omega, by omega⟩, ?_⟩
    rintro x M2 hp2
    obtain ⟨tk2, pl2, rm2, sl2, ho2, ht2, R2, rk2, hF2⟩ := R1.take hp2
    clear hp2
    rcases ho2 with ⟨rfl, ht⟩ | ⟨rfl, h0, ht⟩
    · refine And.intro ⟨⟨by omega, by omega⟩, ⟨by omega, by omega⟩⟩ (And.intro (fun c1 => absurd c1 (by omega)) (fun _ => ?_))
      refine And.intro rfl ⟨(n, tk2, pl2, rm2, 24, d, q.2.2.2 a * q.2.2.2 b), ⟨rfl, R2.1, by omega, d_1, (R2.at d_1 (ltE d_2 (rk2 d d_1))).1, by omega, by omega, hM1.ft (hF2.1 51 (by decide) (by decide) (by decide) (by decide)) (hF2.1 52 (by decide) (by decide) (by decide) (by decide)), by omega⟩, ?_⟩
      rintro x M3 hp
      obtain ⟨c1, c2, c3⟩ := R2.com d_1 (ltE d_2 (rk2 d d_1)) (by omega) hp
      refine Or.inl ?_
      show x = ((mulF n q d a b)).1 ∧ RN n M3 0 ((mulF n q d a b)).2 ∧ FN M0 M3
      rw [e, ht]
      exact ⟨c1, c2, (hF1.N.tr hF2.N).tr c3⟩
    · refine And.intro ⟨⟨by omega, by omega⟩, ⟨by omega, by omega⟩⟩ (And.intro (fun _ => ?_) (fun c2 => absurd c2 (by omega)))
      refine Or.inl ?_
      show -4 = ((mulF n q d a b)).1 ∧ RN n M2 0 ((mulF n q d a b)).2 ∧ FN M0 M2
      rw [e, ht]
      subst h0
      exact ⟨rfl, R2, hF1.N.tr hF2.N⟩
  have ea := Aa.2.2.2.2.2.2.2
  have eb := Ab.2.2.2.2.2.2.2
  refine And.intro rfl (And.intro ⟨rfl, by omega, by omega⟩ ?_)
  conv => whnf
  rw [Int.toNat_natCast, ea]
  refine And.intro ⟨⟨by omega, by omega⟩, ⟨by omega, by omega⟩⟩ (And.intro (fun c1 => ?_) (fun c2 => ?_))
  · exact And.intro (go (by omega)) trivial
  refine And.intro rfl (And.intro ⟨rfl, by omega, by omega⟩ ?_)
  conv => whnf
  rw [Int.toNat_natCast, eb]
  refine And.intro ⟨⟨by omega, by omega⟩, ⟨by omega, by omega⟩⟩ (And.intro (fun c1 => ?_) (fun c2 => ?_))
  · exact And.intro (go (by omega)) trivial
  refine And.intro rfl (And.intro ⟨rfl, by omega, by omega⟩ ?_)
  refine And.intro rfl (And.intro ⟨rfl, by omega, by omega⟩ ?_)
  conv => whnf
  rw [Int.toNat_natCast, Int.toNat_natCast, ea, eb]
  refine And.intro ⟨⟨by omega, by omega⟩, ⟨by omega, by omega⟩⟩ (And.intro (fun c1 => ?_) (fun c2 => ?_))
  · exact And.intro (go (by omega)) trivial
  refine Or.inl ?_
  show -8 = ((mulF n q d a b)).1 ∧ RN n M0 0 ((mulF n q d a b)).2 ∧ FN M0 M0
  rw [e, if_pos (by omega)]
  exact ⟨rfl, R, FN.rf _⟩
theorem imX8_mul {l : Launch} {Z : ZT} (hZ : ZOk Z) : Impl l Z yX8_mul cX8_mul 4 (some .int) 4 (cN3 mulF) := mkImpl (rt := 1) (CL := [(138, some 8, c_isLiveL), (108, some 8, c_product), (131, some 8, c_take), (153, some 8, c_comes)]) hZ.1 hZ.2.1 (by decide +kernel) kX8_mul fwX8 iwX8 lwX8 trivial (Nat.le_of_ble_eq_true rfl) (List.forall_mem_cons.mpr ⟨gX8_138_L hZ (by decide), List.forall_mem_cons.mpr ⟨gX8_108 hZ (by decide), List.forall_mem_cons.mpr ⟨gX8_131 hZ (by decide), List.forall_mem_cons.mpr ⟨gX8_153 hZ (by decide), fun q h => absurd h List.not_mem_nil⟩⟩⟩⟩) ((v_mul _))
