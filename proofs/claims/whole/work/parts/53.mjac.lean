/-! ===== the reference: jacobi ===== -/
/-- the steps of Jacobi's symbol: the sign, and what is left -/
def jl (s : Int) (A B : Nat) : Int × Nat :=
  if A = 0 then (s, B)
  else if A % 2 = 0 then jl (if B % 8 = 3 ∨ B % 8 = 5 then -s else s) (A / 2) B
  else jl (if A % 4 = 3 ∧ B % 4 = 3 then -s else s) (B % A) A
termination_by A
decreasing_by
  · omega
  · exact Nat.mod_lt _ (by omega)
theorem jl_0 (s : Int) (B : Nat) : jl s 0 B = (s, B) := by rw [jl, if_pos rfl]
theorem jl_e {s : Int} {A B : Nat} (h : A ≠ 0) (h2 : A % 2 = 0) : jl s A B = jl (if B % 8 = 3 ∨ B % 8 = 5 then -s else s) (A / 2) B := by rw [jl, if_neg h, if_pos h2]
theorem jl_o {s : Int} {A B : Nat} (h : A ≠ 0) (h2 : ¬ A % 2 = 0) : jl s A B = jl (if A % 4 = 3 ∧ B % 4 = 3 then -s else s) (B % A) A := by rw [jl, if_neg h, if_neg h2]
def jcV (a m : Nat) : Int := if (jl 1 (a % m) m).2 = 1 then 1 + (jl 1 (a % m) m).1 else 1
/-- what was taken goes -/
def drR (n : Nn) (q : RS) : RS := (q.1, (fun t => if t < n.1 then q.2.1 t else 0), q.2.2.1, q.2.2.2)
theorem RN.drop {n : Nn} {M : Mem} {tk : Nat} {q : RS} (R : RN n M tk q) : RN n (up2 M 50 10 0) 0 (drR n q) := by
  refine ⟨R.1.drop, ?_, fun h h1 h2 => ?_, fun h h1 h2 => ?_⟩
  · rw [up2_k (by decide)]
    exact R.2.1
  · change 0 < (if h < n.1 then q.2.1 h else 0) at h2
    show _ ≤ (if h < n.1 then q.2.1 h else 0) ∧ (if h < n.1 then q.2.1 h else 0) ≤ 64
    rw [if_pos h1] at h2 ⊢
    exact R.2.2.1 h h1 h2
  · change 0 < (if h < n.1 then q.2.1 h else 0) at h2
    rw [if_pos h1] at h2
    exact (R.2.2.2 h h1 h2).ft (up2_i (by decide)) (up2_i (by decide))
theorem FN.up10 {M : Mem} {x : Int} : FN M (up2 M 50 10 x) := ⟨fun p a => up2_i (by omega), fun j a _ => up2_k a⟩
theorem dg_0 (v : Nat) : dg v 0 = v % 32768 := by unfold dg; rw [Nat.pow_zero, Nat.div_one]
theorem dgZ_0 (v : Nat) : dgZ v 0 = ((v % 32768 : Nat) : Int) := by rw [← dg_0]; rfl
def jacF (n : Nn) (q : RS) (a m : Int) : Int × RS := if Lv n q a ∧ Lv n q m then (if q.2.2.2 m.toNat % 2 = 0 then (-3, q) else tcR n 0 q ((nd (q.2.2.2 a.toNat) : Nat) : Int) (fun t1 q1 => tcR n t1 q1 ((nd (q.2.2.2 m.toNat) : Nat) : Int) (fun _ q2 => (jcV (q.2.2.2 a.toNat) (q.2.2.2 m.toNat), drR n q2)))) else (-2, q)
theorem v_jacobi (n0 : Nn) : Ver tX8_jacobi (fdX8, icX8, lcX8, [(138, some 8, c_isLiveL), (76, some 8, c_at), (131, some 8, c_take), (97, some 8, c_divide), (101, some 8, c_copy), (162, some 8, c_shifted), (165, some 8, c_isOne)]) 1 5 n0 (cN2 jacF) := by
  rintro ⟨n, q, a, m⟩ vs M0 ⟨rfl, ia, im, R⟩ aw run
  have l52 : lnF n0 52 = 37 := rfl
  have l54 : lnF n0 54 = 24 := rfl
  have l55 : lnF n0 55 = 24 := rfl
  have bad : ¬ (Lv n q a ∧ Lv n q m) → aw 16 [some (.inr (.inr 50)), some (.inl a), some (.inl m), none, none] [] M0 := by
    intro hb
    have e : jacF n q a m = (-2, q) := if_neg hb
    refine run 60 [] _ _ _ _ ?_
    refine Or.inl ?_
    show -2 = (jacF n q a m).1 ∧ RN n M0 0 (jacF n q a m).2 ∧ FN M0 M0
    rw [e]
    exact ⟨rfl, R, FN.rf _⟩
  change aw 0 [some (.inr (.inr 50)), some (.inl a), some (.inl m), none, none] [] M0
  refine run 90 [16, 86] _ _ _ _ ?_
  refine And.intro rfl ⟨(n, 0, q, a), ⟨rfl, ia, R⟩, ?_⟩
  rintro x M0 ⟨⟨rfl, ha⟩ | ⟨rfl, ha⟩, rfl⟩
  rotate_left
  · refine And.intro ⟨⟨by omega, by omega⟩, ⟨by omega, by omega⟩⟩ (And.intro (fun _ => ?_) (fun c2 => absurd c2 (by omega)))
    exact And.intro (bad (fun z => ha z.1)) trivial
  refine And.intro ⟨⟨by omega, by omega⟩, ⟨by omega, by omega⟩⟩ (And.intro (fun c1 => absurd c1 (by omega)) (fun _ => ?_))
  refine And.intro rfl ⟨(n, 0, q, m), ⟨rfl, im, R⟩, ?_⟩
  rintro x M0 ⟨⟨rfl, hm⟩ | ⟨rfl, hm⟩, rfl⟩
  rotate_left
  · refine And.intro ⟨⟨by omega, by omega⟩, ⟨by omega, by omega⟩⟩ (And.intro (fun c1 => absurd c1 (by omega)) (fun _ => ?_))
    exact And.intro (bad (fun z => hm z.2)) trivial
  refine And.intro ⟨⟨by omega, by omega⟩, ⟨by omega, by omega⟩⟩ (And.intro (fun _ => ?_) (fun c2 => absurd c2 (by omega)))
  have b2 := R.n24
  obtain ⟨a, rfl, a_1, a_2⟩ := ha.nat
  have Aa := R.at a_1 a_2
  obtain ⟨m, rfl, m_1, m_2⟩ := hm.nat
  have Am := R.at m_1 m_2
  have L0 := And.intro (Lv.of a_1 a_2) (Lv.of m_1 m_2)
  have e : jacF n q a m = (if q.2.2.2 m % 2 = 0 then (-3, q) else tcR n 0 q ((nd (q.2.2.2 a) : Nat) : Int) (fun t1 q1 => tcR n t1 q1 ((nd (q.2.2.2 m) : Nat) : Int) (fun _ q2 => (jcV (q.2.2.2 a) (q.2.2.2 m), drR n q2)))) := if_pos L0
  have ea := Aa.2.2.2.2.2.2.2
  have na := Aa.2.2.2.2.1
  have nm := Am.2.2.2.2.1
  refine And.intro rfl ⟨(m, 0, q.2.2.2 m), ⟨rfl, by omega, ⟨by omega, by omega⟩, Am.2.2.2.1, by omega⟩, ?_⟩
  rintro x M0 ⟨rfl, rfl⟩
  rw [dgZ_0]
  refine And.intro ⟨by omega, by omega, ⟨by omega, by omega⟩, ⟨by omega, by omega⟩⟩ ?_
  refine And.intro ⟨⟨by omega, by omega⟩, ⟨by omega, by omega⟩⟩ (And.intro (fun c1 => ?_) (fun c2 => ?_))
  rotate_left
  · refine Or.inl ?_
    show -3 = ((jacF n q a m)).1 ∧ RN n M0 0 ((jacF n q a m)).2 ∧ FN M0 M0
    rw [e, if_pos (by omega)]
    exact ⟨rfl, R, FN.rf _⟩
  have m0 : q.2.2.2 m ≠ 0 := fun z => by rw [z] at c1; omega
  rw [if_neg (by omega)] at e
  refine And.intro rfl (And.intro ⟨rfl, by omega, by omega⟩ ?_)
  conv => whnf
  rw [Int.toNat_natCast, ea]
  refine And.intro rfl ⟨(n, 0, (q).1, (q).2.1, (nd (q.2.2.2 a) : Int)), ⟨rfl, R.1, by omega, by omega, by omega⟩, ?_⟩
  rintro x M1 hp1
  obtain ⟨tk1, pl1, rm1, sl1, ho1, ht1, R1, rk1, hF1⟩ := R.take hp1
  clear hp1
  rcases ho1 with ⟨rfl, hu1⟩ | ⟨rfl, h0, hu1⟩
  rotate_left
  · refine And.intro ⟨⟨by omega, by omega⟩, ⟨by omega, by omega⟩⟩ (And.intro (fun _ => ?_) (fun c2 => absurd c2 (by omega)))
    refine Or.inl ?_
    show -4 = ((jacF n q a m)).1 ∧ RN n M1 0 ((jacF n q a m)).2 ∧ FN M0 M1
    rw [e, hu1]
    subst h0
    exact ⟨rfl, R1, hF1.N⟩
  refine And.intro ⟨⟨by omega, by omega⟩, ⟨by omega, by omega⟩⟩ (And.intro (fun c1 => absurd c1 (by omega)) (fun _ => ?_))
  have m1 : 0 < rm1 m := ltE m_2 (rk1 m m_1)
  have em := (R1.at m_1 m1).2.2.2.2.2.2.2
  refine And.intro rfl (And.intro ⟨rfl, by omega, by omega⟩ ?_)
  conv => whnf
  rw [Int.toNat_natCast, em]
  refine And.intro rfl ⟨(n, tk1, (((pl1, rm1, sl1, q.2.2.2) : RS)).1, (((pl1, rm1, sl1, q.2.2.2) : RS)).2.1, (nd (q.2.2.2 m) : Int)), ⟨rfl, R1.1, by omega, by omega, by omega⟩, ?_⟩
  rintro x M2 hp2
  obtain ⟨tk2, pl2, rm2, sl2, ho2, ht2, R2, rk2, hF2⟩ := R1.take hp2
  clear hp2
  rcases ho2 with ⟨rfl, hu2⟩ | ⟨rfl, h0, hu2⟩
  rotate_left
  · refine And.intro ⟨⟨by omega, by omega⟩, ⟨by omega, by omega⟩⟩ (And.intro (fun c1 => absurd c1 (by omega)) (fun _ => ?_))
    refine Or.inl ?_
    show -4 = ((jacF n q a m)).1 ∧ RN n M2 0 ((jacF n q a m)).2 ∧ FN M0 M2
    rw [e.trans ((hu1 _).trans (hu2 _))]
    subst h0
    exact ⟨rfl, R2, hF1.N.tr hF2.N⟩
  refine And.intro ⟨⟨by omega, by omega⟩, ⟨by omega, by omega⟩⟩ (And.intro (fun _ => ?_) (fun c2 => absurd c2 (by omega)))
  have e2 := e.trans ((hu1 _).trans (hu2 _))
  have R3 := R2.drop
  have f3 : FN M0 (up2 M2 50 10 0) := (hF1.N.tr hF2.N).tr FN.up10
  have a3 : 0 < (drR n (pl2, rm2, sl2, q.2.2.2)).2.1 a := by
    show 0 < if a < n.1 then rm2 a else 0
    rw [if_pos a_1]
    exact ltE (ltE a_2 (rk1 a a_1)) (rk2 a a_1)
  have m3 : 0 < (drR n (pl2, rm2, sl2, q.2.2.2)).2.1 m := by
    show 0 < if m < n.1 then rm2 m else 0
    rw [if_pos m_1]
    exact ltE m1 (rk2 m m_1)
  have Ba := (R3.at a_1 a3).2.2.2.1
  have Bm := (R3.at m_1 m3).2.2.2.1
  change MH _ a (q.2.2.2 a) at Ba
  change MH _ m (q.2.2.2 m) at Bm
  refine And.intro rfl ?_
  generalize up2 M2 50 10 0 = M3 at *
  have fin : ∀ (s : Int) (B : Nat) (M : Mem) (o4 : Option AV), (s = 1 ∨ s = -1) → nd B ≤ 64 → MH M 25 B → (s, B) = jl 1 (q.2.2.2 a % q.2.2.2 m) (q.2.2.2 m) → RN n M 0 (drR n (pl2, rm2, sl2, q.2.2.2)) → FN M0 M → aw 223 [some (.inr (.inr 50)), some (.inl (a : Int)), some (.inl (m : Int)), some (.inl s), o4] [] M := by
    intro s B M o4 hs nB hB hj RM fM
    refine run 60 [] _ _ _ _ ?_
    refine And.intro rfl ⟨(25, B), ⟨rfl, by omega, hB, by omega⟩, ?_⟩
    rintro x M ⟨rfl, rfl⟩
    have ej : jcV (q.2.2.2 a) (q.2.2.2 m) = if B = 1 then 1 + s else 1 := by
      unfold jcV
      rw [← hj]
    by_cases hB1 : B = 1
    · rw [if_pos hB1] at ej ⊢
      refine And.intro ⟨⟨by omega, by omega⟩, ⟨by omega, by omega⟩⟩ (And.intro (fun c1 => absurd c1 (by omega)) (fun _ => ?_))
      refine Or.inl ?_
      show (1 + s) = ((jacF n q a m)).1 ∧ RN n M 0 ((jacF n q a m)).2 ∧ FN M0 M
      rw [e2]
      exact ⟨ej.symm, RM, fM⟩
    · rw [if_neg hB1] at ej ⊢
      refine And.intro ⟨⟨by omega, by omega⟩, ⟨by omega, by omega⟩⟩ (And.intro (fun _ => ?_) (fun c2 => absurd c2 (by omega)))
      refine Or.inl ?_
      show 1 = ((jacF n q a m)).1 ∧ RN n M 0 ((jacF n q a m)).2 ∧ FN M0 M
      rw [e2]
      exact ⟨ej.symm, RM, fM⟩
  have h86 : ∀ (A : Nat) (s : Int) (B : Nat) (M : Mem) (o4 : Option AV), (A ≠ 0 → aw 96 [some (.inr (.inr 50)), some (.inl (a : Int)), some (.inl (m : Int)), some (.inl s), o4] [] M) → (s = 1 ∨ s = -1) → nd A ≤ 64 → nd B ≤ 64 → MH M 24 A → MH M 25 B → jl s A B = jl 1 (q.2.2.2 a % q.2.2.2 m) (q.2.2.2 m) → RN n M 0 (drR n (pl2, rm2, sl2, q.2.2.2)) → FN M0 M → aw 86 [some (.inr (.inr 50)), some (.inl (a : Int)), some (.inl (m : Int)), some (.inl s), o4] [] M := by
    intro A s B M o4 h96 hs nA nB hA hB hj RM fM
    refine run 60 [86, 96, 223] _ _ _ _ ?_
    refine And.intro rfl (And.intro ⟨rfl, by omega, by omega⟩ ?_)
    conv => whnf
    rw [show ((24 : Int)).toNat = 24 from rfl, hA.1]
    refine And.intro ⟨⟨by omega, by omega⟩, ⟨by omega, by omega⟩⟩ (And.intro (fun c1 => ?_) (fun c2 => ?_))
    · have A0 : A = 0 := nd_z.mp (by omega)
      subst A0
      rw [jl_0] at hj
      exact And.intro (fin s B M o4 hs nB hB hj RM fM) trivial
    · exact And.intro (h96 (fun z => by rw [z, nd_0] at c2; omega)) trivial
  have h96 : ∀ (A : Nat) (s : Int) (B : Nat) (M : Mem) (o4 : Option AV), A ≠ 0 → (s = 1 ∨ s = -1) → nd A ≤ 64 → nd B ≤ 64 → MH M 24 A → MH M 25 B → jl s A B = jl 1 (q.2.2.2 a % q.2.2.2 m) (q.2.2.2 m) → RN n M 0 (drR n (pl2, rm2, sl2, q.2.2.2)) → FN M0 M → aw 96 [some (.inr (.inr 50)), some (.inl (a : Int)), some (.inl (m : Int)), some (.inl s), o4] [] M := by
    intro A
    induction A using Nat.strongRecOn with
    | ind A ih =>
    intro s B M o4 A0 hs nA nB hA hB hj RM fM
    refine run 90 [86, 96, 192] _ _ _ _ ?_
    refine And.intro rfl ⟨(24, 0, A), ⟨rfl, by omega, ⟨by omega, by omega⟩, hA, by omega⟩, ?_⟩
    rintro x M ⟨rfl, rfl⟩
    rw [dgZ_0]
    refine And.intro ⟨by omega, by omega, ⟨by omega, by omega⟩, ⟨by omega, by omega⟩⟩ ?_
    refine And.intro ⟨⟨by omega, by omega⟩, ⟨by omega, by omega⟩⟩ (And.intro (fun c1 => ?_) (fun c2 => ?_))
    · have odd : ¬ A % 2 = 0 := by omega
      rw [jl_o A0 odd] at hj
      have go : ∀ s', s' = (if A % 4 = 3 ∧ B % 4 = 3 then -s else s) → aw 192 [some (.inr (.inr 50)), some (.inl (a : Int)), some (.inl (m : Int)), some (.inl s'), o4] [] M := by
        intro s' es
        rw [← es] at hj
        have hs' : s' = 1 ∨ s' = -1 := by
          rw [es]
          split <;> omega
        refine run 60 [86] _ _ _ _ ?_
        refine And.intro rfl ⟨(25, 24, 31, 26, B, A), ⟨rfl, by omega, by omega, by omega, by omega, by omega, by omega, by omega, by omega, by omega, hB, by omega, hA, by omega, A0⟩, ?_⟩
        rintro M4 ⟨_, hC4, hF4⟩
        have hA4 := hF4.keep (by omega) (by omega) hA (by omega)
        have nC : nd (B % A) ≤ nd A := nd_md A0
        refine And.intro rfl ⟨(24, 25, A), ⟨rfl, by omega, by omega, hA4, by omega⟩, ?_⟩
        rintro M5 ⟨hB5, hF5⟩
        have hC5 := hF5.keep (by omega) hC4 (by omega)
        refine And.intro rfl ⟨(26, 24, B % A), ⟨rfl, by omega, by omega, hC5, by omega⟩, ?_⟩
        rintro M6 ⟨hA6, hF6⟩
        have hB6 := hF6.keep (by omega) hB5 (by omega)
        have fl : FrL M M6 SCL := ((hF4.L (by decide) (by decide)).tr (hF5.L (by decide))).tr (hF6.L (by decide))
        have R6 := RM.fl fl SCL_ge
        have f6 := fM.tr fl.N
        refine And.intro ?_ trivial
        exact h86 (B % A) s' A M6 o4 (fun z => ih (B % A) (Nat.mod_lt _ (Nat.pos_of_ne_zero A0)) s' A M6 o4 z hs' (by omega) nA hA6 hB6 hj R6 f6) hs' (by omega) nA hA6 hB6 hj R6 f6
      refine And.intro rfl ⟨(24, 0, A), ⟨rfl, by omega, ⟨by omega, by omega⟩, hA, by omega⟩, ?_⟩
      rintro x M ⟨rfl, rfl⟩
      rw [dgZ_0]
      refine And.intro ⟨by omega, by omega, ⟨by omega, by omega⟩, ⟨by omega, by omega⟩⟩ ?_
      refine And.intro ⟨⟨by omega, by omega⟩, ⟨by omega, by omega⟩⟩ (And.intro (fun c1 => ?_) (fun c2 => ?_))
      · exact And.intro (go s (by rw [if_neg (by omega)])) trivial
      · refine And.intro rfl ⟨(25, 0, B), ⟨rfl, by omega, ⟨by omega, by omega⟩, hB, by omega⟩, ?_⟩
        rintro x M ⟨rfl, rfl⟩
        rw [dgZ_0]
        refine And.intro ⟨by omega, by omega, ⟨by omega, by omega⟩, ⟨by omega, by omega⟩⟩ ?_
        refine And.intro ⟨⟨by omega, by omega⟩, ⟨by omega, by omega⟩⟩ (And.intro (fun c1 => ?_) (fun c2 => ?_))
        · exact And.intro (go s (by rw [if_neg (by omega)])) trivial
        · exact And.intro (go (-s) (by rw [if_pos (by omega)])) trivial
    · have even : A % 2 = 0 := by omega
      rw [jl_e A0 even] at hj
      refine And.intro rfl ⟨(24, -1, 26, A), ⟨rfl, by omega, by omega, by omega, by omega, by omega, hA, by omega⟩, ?_⟩
      rintro M4 ⟨hC4, hF4⟩
      have eS : shV A (-1) = A / 2 := by
        unfold shV
        rw [if_pos (by omega)]
        rfl
      rw [eS] at hC4
      have nC : nd (A / 2) ≤ nd A := nd_mono (Nat.div_le_self _ _)
      have hB4 := hF4.keep (by omega) hB (by omega)
      refine And.intro rfl ⟨(26, 24, A / 2), ⟨rfl, by omega, by omega, hC4, by omega⟩, ?_⟩
      rintro M5 ⟨hA5, hF5⟩
      have hB5 := hF5.keep (by omega) hB4 (by omega)
      have fl : FrL M M5 SCL := (hF4.L (by decide)).tr (hF5.L (by decide))
      refine And.intro rfl ⟨(25, 0, B), ⟨rfl, by omega, ⟨by omega, by omega⟩, hB5, by omega⟩, ?_⟩
      rintro x M5 ⟨rfl, rfl⟩
      have R5 := RM.fl fl SCL_ge
      have f5 := fM.tr fl.N
      rw [dgZ_0]
      refine And.intro ⟨by omega, by omega, ⟨by omega, by omega⟩, ⟨by omega, by omega⟩⟩ ?_
      refine And.intro ⟨⟨by omega, by omega⟩, ⟨by omega, by omega⟩⟩ (And.intro (fun c1 => ?_) (fun c2 => ?_))
      · refine And.intro ?_ trivial
        rw [if_pos (by omega)] at hj
        exact ih (A / 2) (by omega) (-s) B M5 _ (by omega) (by omega) (by omega) nB hA5 hB5 hj R5 f5
      · refine And.intro ⟨⟨by omega, by omega⟩, ⟨by omega, by omega⟩⟩ (And.intro (fun c1 => ?_) (fun c2 => ?_))
        · refine And.intro ?_ trivial
          rw [if_neg (by omega)] at hj
          exact ih (A / 2) (by omega) s B M5 _ (by omega) (by omega) (by omega) nB hA5 hB5 hj R5 f5
        · refine And.intro ?_ trivial
          rw [if_pos (by omega)] at hj
          exact ih (A / 2) (by omega) (-s) B M5 _ (by omega) (by omega) (by omega) nB hA5 hB5 hj R5 f5
  refine And.intro rfl ⟨(a, m, 31, 24, q.2.2.2 a, q.2.2.2 m), ⟨rfl, by omega, by omega, by omega, by omega, by omega, by omega, by omega, by omega, by omega, Ba, by omega, Bm, by omega, m0⟩, ?_⟩
  rintro M4 ⟨_, hA4, hF4⟩
  have nC : nd (q.2.2.2 a % q.2.2.2 m) ≤ nd (q.2.2.2 m) := nd_md m0
  have Bm4 := hF4.keep (by omega) (by omega) Bm (by omega)
  refine And.intro rfl ⟨(m, 25, q.2.2.2 m), ⟨rfl, by omega, by omega, Bm4, by omega⟩, ?_⟩
  rintro M5 ⟨hB5, hF5⟩
  have hA5 := hF5.keep (by omega) hA4 (by omega)
  have fl : FrL M3 M5 SCL := (hF4.L (by decide) (by decide)).tr (hF5.L (by decide))
  have R5 := R3.fl fl SCL_ge
  have f5 := f3.tr fl.N
  refine And.intro ?_ trivial
  exact h86 _ 1 _ M5 _ (fun z => h96 _ 1 _ M5 _ z (Or.inl rfl) (by omega) nm hA5 hB5 rfl R5 f5) (Or.inl rfl) (by omega) nm hA5 hB5 rfl R5 f5
theorem imX8_jacobi {l : Launch} {Z : ZT} (hZ : ZOk Z) : Impl l Z yX8_jacobi cX8_jacobi 5 (some .int) 4 (cN2 jacF) := mkImpl (rt := 1) (CL := [(138, some 8, c_isLiveL), (76, some 8, c_at), (131, some 8, c_take), (97, some 8, c_divide), (101, some 8, c_copy), (162, some 8, c_shifted), (165, some 8, c_isOne)]) hZ.1 hZ.2.1 (by decide +kernel) kX8_jacobi fwX8 iwX8 lwX8 trivial (Nat.le_of_ble_eq_true rfl) (List.forall_mem_cons.mpr ⟨gX8_138_L hZ (by decide), List.forall_mem_cons.mpr ⟨gX8_76 hZ (by decide), List.forall_mem_cons.mpr ⟨gX8_131 hZ (by decide), List.forall_mem_cons.mpr ⟨gX8_97 hZ (by decide), List.forall_mem_cons.mpr ⟨gX8_101 hZ (by decide), List.forall_mem_cons.mpr ⟨gX8_162 hZ (by decide), List.forall_mem_cons.mpr ⟨gX8_165 hZ (by decide), fun q h => absurd h List.not_mem_nil⟩⟩⟩⟩⟩⟩⟩) ((v_jacobi _))
