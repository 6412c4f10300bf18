/-! ===== the reference: alloc, setLimb ===== -/
/-- the first of r handles from i on that has no run -/
def frF (rm : Nat → Int) (r i : Nat) : Nat := match r with
  | 0 => i
  | r + 1 => if rm i = 0 then i else frF rm r (i + 1)
def alcF (n : Nn) (q : RS) (k : Int) : Int × RS := if 1 ≤ k ∧ k ≤ 64 then (if frF q.2.1 n.1 0 = n.1 then (-9, q) else tcR n 0 q k (fun _ q1 => ((frF q.2.1 n.1 0 : Int), gvR n q1 (va_up (fun t => t) (frF q.2.1 n.1 0) n.1) (va_up q1.2.2.2 (frF q.2.1 n.1 0) 0)))) else (-3, q)
theorem v_alloc (n0 : Nn) : Ver tX8_alloc (fdX8, icX8, lcX8, [(127, none, c_isIn), (131, some 8, c_take)]) 1 3 n0 (cN1 alcF) := by
  rintro ⟨n, q, k⟩ vs M0 ⟨rfl, ik, R⟩ aw run
  have ik0 := ik
  unfold inR at ik0
  have l52 : lnF n0 52 = 37 := rfl
  have l53 : lnF n0 53 = 24 := rfl
  have l54 : lnF n0 54 = 24 := rfl
  have l55 : lnF n0 55 = 24 := rfl
  have l56 : lnF n0 56 = 8 := rfl
  have b2 := R.n24
  have b5 := R.1.1.2.2.2.2.1
  change aw 0 [some (.inr (.inr 50)), some (.inl k), none] [] M0
  refine run 90 [15] _ _ _ _ ?_
  refine ⟨(k, 1, 64), ⟨rfl, ik, ⟨by omega, by omega⟩, ⟨by omega, by omega⟩⟩, ?_⟩
  rintro x M0 ⟨rfl, rfl⟩
  by_cases hin : 1 ≤ k ∧ k ≤ 64
  rotate_left
  · rw [if_neg hin]
    have e : alcF n q k = (-3, q) := if_neg hin
    refine And.intro ⟨⟨by omega, by omega⟩, ⟨by omega, by omega⟩⟩ (And.intro (fun c1 => absurd c1 (by omega)) (fun _ => ?_))
    refine Or.inl ?_
    show -3 = ((alcF n q k)).1 ∧ RN n M0 0 ((alcF n q k)).2 ∧ FN M0 M0
    rw [e]
    exact ⟨rfl, R, FN.rf _⟩
  rw [if_pos hin]
  refine And.intro ⟨⟨by omega, by omega⟩, ⟨by omega, by omega⟩⟩ (And.intro (fun _ => ?_) (fun c2 => absurd c2 (by omega)))
  have e : alcF n q k = (if frF q.2.1 n.1 0 = n.1 then (-9, q) else tcR n 0 q k (fun _ q1 => ((frF q.2.1 n.1 0 : Int), gvR n q1 (va_up (fun t => t) (frF q.2.1 n.1 0) n.1) (va_up q1.2.2.2 (frF q.2.1 n.1 0) 0)))) := if_pos hin
  have go : ∀ h : Nat, h < n.1 → q.2.1 h = 0 → h = frF q.2.1 n.1 0 → aw 49 [some (.inr (.inr 50)), some (.inl k), some (.inl (h : Int))] [] M0 := by
    intro h h_1 h_2 eh
    rw [← eh, if_neg (by omega)] at e
    refine run 60 [] _ _ _ _ ?_
    refine And.intro rfl ⟨(n, 0, q.1, q.2.1, k), ⟨rfl, R.1, by omega, by omega, by omega⟩, ?_⟩
    rintro x M1 hp
    obtain ⟨pl1, rm1, sl1, ho, rk1, hF1⟩ := R.takeP (by omega) hp
    clear hp
    rcases ho with ⟨rfl, hu, R1, hk⟩ | ⟨rfl, R1, hu⟩
    rotate_left
    · refine And.intro ⟨⟨by omega, by omega⟩, ⟨by omega, by omega⟩⟩ (And.intro (fun c1 => absurd c1 (by omega)) (fun _ => ?_))
      refine Or.inl ?_
      show -4 = ((alcF n q k)).1 ∧ RN n M1 0 ((alcF n q k)).2 ∧ FN M0 M1
      rw [e, hu]
      exact ⟨rfl, R1, hF1.N⟩
    refine And.intro ⟨⟨by omega, by omega⟩, ⟨by omega, by omega⟩⟩ (And.intro (fun _ => ?_) (fun c2 => absurd c2 (by omega)))
    refine And.intro rfl (And.intro ⟨rfl, by omega, by omega, Or.inr rfl⟩ (And.intro rfl (And.intro rfl (And.intro ⟨rfl, by omega, by omega⟩ (And.intro ⟨rfl, by omega, by omega⟩ (And.intro rfl (And.intro ⟨rfl, by omega, by omega⟩ (And.intro rfl (And.intro ⟨rfl, by omega, by omega⟩ (And.intro rfl ?_))))))))))
    have ex : (M1 56 0) = up2 M1 53 h 1 56 0 := (by rw [up2_i (by decide)])
    refine Or.inl ?_
    show (h : Int) = ((alcF n q k)).1 ∧ RN n (up2 (up2 (up2 (up2 (up2 M1 53 h 1) 55 h (up2 M1 53 h 1 56 0)) 54 h k) 52 h 0) 50 10 0) 0 ((alcF n q k)).2 ∧ FN M0 (up2 (up2 (up2 (up2 (up2 M1 53 h 1) 55 h (up2 M1 53 h 1 56 0)) 54 h k) 52 h 0) 50 10 0)
    rw [e, hu, ← ex]
    refine ⟨rfl, ?_, (hF1.N.tr ((((FN.up (by omega)).tr (FN.up (by omega))).tr (FN.up (by omega))).tr (FN.up (by omega)))).tr FN.up10⟩
    have e56 : M1 56 0 = pl1 n.1 := by
      have := (R1.1.2.2 n.1 (by omega)).2 (show 0 < rm1 n.1 by rw [show rm1 n.1 = k from hk]; omega)
      rw [← show plM n M1 n.1 = pl1 n.1 from this]
      unfold plM
      rw [if_neg (by omega), Nat.sub_self]
    refine R1.move sg1_lt sg1_in (fun j hj => by rw [up2_k hj, up2_i (by decide), up2_i (by decide), up2_i (by decide), up2_i (by decide)]) up2_s (fun t ht => ?_) (fun t ht hr => ?_)
    · show _ ∧ rm1 _ = 0 ∨ _ ∧ 0 < rm1 _ ∧ _ = rm1 _ ∧ _ = pl1 _
      by_cases c : t = h
      · subst c
        rw [va_up_self, show rm1 n.1 = k from hk]
        refine Or.inr ⟨?_, by omega, ?_, ?_⟩
        · rw [up2_i (by decide), up2_i (by decide), up2_i (by decide), up2_i (by decide), up2_s]
        · rw [up2_i (by decide), up2_i (by decide), up2_s]
        · rw [up2_i (by decide), up2_i (by decide), up2_i (by decide), up2_s, e56]
      · rw [va_up_ne _ _ c, up2_i (by decide), up2_i (by decide), up2_i (by decide), up2_i (by decide), up2_k c, up2_i (by decide), up2_i (by decide), up2_k c, up2_i (by decide), up2_i (by decide), up2_i (by decide), up2_i (by decide), up2_i (by decide), up2_k c, up2_i (by decide)]
        by_cases hl : 0 < rm1 t
        · have A := R1.at ht hl
          exact Or.inr ⟨A.1, hl, A.2.1, A.2.2.1⟩
        · have A := R1.dead ht hl
          exact Or.inl ⟨A.1, A.2⟩
    · change 0 < rm1 (va_up (fun t => t) h n.1 t) at hr
      show MH _ t (va_up q.2.2.2 h 0 t) ∧ (nd (va_up q.2.2.2 h 0 t) : Int) ≤ rm1 (va_up (fun t => t) h n.1 t) ∧ rm1 (va_up (fun t => t) h n.1 t) ≤ 64
      by_cases c : t = h
      · subst c
        rw [va_up_self, va_up_self, show rm1 n.1 = k from hk, nd_0]
        refine ⟨⟨?_, fun i hi => ?_⟩, by omega, by omega⟩
        · rw [up2_i (by decide), up2_s]
          rfl
        · rw [nd_0] at hi
          omega
      · rw [va_up_ne _ _ c] at hr ⊢
        rw [va_up_ne _ _ c]
        have A := R1.at ht hr
        refine ⟨⟨?_, fun i hi => ?_⟩, A.2.2.2.2.2.1, A.2.2.2.2.2.2.1⟩
        · rw [up2_i (by decide), up2_k c, up2_i (by decide), up2_i (by decide), up2_i (by decide)]
          exact A.2.2.2.1.1
        · rw [up2_i (by decide), up2_i (by decide), up2_i (by decide), up2_i (by decide), up2_i (by decide)]
          exact A.2.2.2.1.2 i hi
  have loop : ∀ (r i : Nat), i + r = n.1 → frF q.2.1 r i = frF q.2.1 n.1 0 → aw 15 [some (.inr (.inr 50)), some (.inl k), some (.inl (i : Int))] [] M0 := by
    intro r
    induction r with
    | zero =>
      intro i hi hf
      have hf2 : i = frF q.2.1 n.1 0 := hf
      rw [if_pos (by omega)] at e
      refine run 60 [15] _ _ _ _ ?_
      refine And.intro rfl ?_
      refine And.intro ⟨⟨by omega, by omega⟩, ⟨by omega, by omega⟩⟩ (And.intro (fun _ => ?_) (fun c2 => absurd c2 (by omega)))
      refine And.intro rfl ?_
      refine And.intro ⟨⟨by omega, by omega⟩, ⟨by omega, by omega⟩⟩ (And.intro (fun c1 => absurd c1 (by omega)) (fun _ => ?_))
      refine Or.inl ?_
      show -9 = ((alcF n q k)).1 ∧ RN n M0 0 ((alcF n q k)).2 ∧ FN M0 M0
      rw [e]
      exact ⟨rfl, R, FN.rf _⟩
    | succ r ih =>
      intro i hi hf
      rw [frF] at hf
      refine run 60 [15, 49] _ _ _ _ ?_
      refine And.intro rfl ?_
      refine And.intro ⟨⟨by omega, by omega⟩, ⟨by omega, by omega⟩⟩ (And.intro (fun c1 => absurd c1 (by omega)) (fun _ => ?_))
      refine And.intro rfl (And.intro ⟨rfl, by omega, by omega⟩ ?_)
      conv => whnf
      rw [Int.toNat_natCast]
      by_cases hl : 0 < q.2.1 i
      · have A := (R.at (by omega) hl).1
        rw [if_neg (by omega)] at hf
        refine And.intro ⟨⟨by omega, by omega⟩, ⟨by omega, by omega⟩⟩ (And.intro (fun c1 => absurd c1 (by omega)) (fun _ => ?_))
        refine And.intro ?_ trivial
        exact ih (i + 1) (by omega) hf
      · have A := R.dead (h := i) (by omega) hl
        rw [if_pos A.2] at hf
        have A1 := A.1
        refine And.intro ⟨⟨by omega, by omega⟩, ⟨by omega, by omega⟩⟩ (And.intro (fun _ => ?_) (fun c2 => absurd c2 (by omega)))
        refine And.intro rfl ?_
        refine And.intro ⟨⟨by omega, by omega⟩, ⟨by omega, by omega⟩⟩ (And.intro (fun _ => ?_) (fun c2 => absurd c2 (by omega)))
        exact And.intro (go i (by omega) A.2 hf) trivial
  exact And.intro (loop n.1 0 (by omega) rfl) trivial
theorem imX8_alloc {l : Launch} {Z : ZT} (hZ : ZOk Z) : Impl l Z yX8_alloc cX8_alloc 3 (some .int) 3 (cN1 alcF) := mkImpl (rt := 1) (CL := [(127, none, c_isIn), (131, some 8, c_take)]) hZ.1 hZ.2.1 (by decide +kernel) kX8_alloc fwX8 iwX8 lwX8 trivial (Nat.le_of_ble_eq_true rfl) (List.forall_mem_cons.mpr ⟨gX8_127 hZ (by decide), List.forall_mem_cons.mpr ⟨gX8_131 hZ (by decide), fun q h => absurd h List.not_mem_nil⟩⟩) ((v_alloc _))
