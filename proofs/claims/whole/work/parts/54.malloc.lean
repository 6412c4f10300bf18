/-! ===== the reference: runs that were taken become the handles'; alloc, resize ===== -/
theorem AgM.move {n : Nn} {M M' : Mem} {pl rm : Nat → Int} {tk : Nat} {σ : Nat → Nat} (h : AgM n M pl rm tk) (s1 : ∀ t, t < n.1 → σ t < n.1 + 5) (s2 : ∀ t u, t < n.1 → u < n.1 → σ t = σ u → t = u) (f50 : ∀ j, j ≠ 10 → M' 50 j = M 50 j) (f10 : M' 50 10 = 0) (g : ∀ t, t < n.1 → (M' 53 t = 0 ∧ rm (σ t) = 0) ∨ (M' 53 t = 1 ∧ 0 < rm (σ t) ∧ M' 54 t = rm (σ t) ∧ M' 55 t = pl (σ t))) :
    AgM n M' (fun t => pl (σ t)) (fun t => if t < n.1 then rm (σ t) else 0) 0 := by
  have h0 := h
  obtain ⟨hR, hdj, ha⟩ := h
  obtain ⟨b1, b2, b3, b4, b5, b6, b7, b8, b9, b10⟩ := hR
  have hr : ∀ t, rmM n M' t = if t < n.1 then rm (σ t) else 0 := by
    intro t
    by_cases h1 : t < n.1
    · rw [if_pos h1]
      unfold rmM
      rw [if_pos h1]
      rcases g t h1 with ⟨x1, x2⟩ | ⟨x1, x2, x3, x4⟩
      · rw [if_neg (by omega), x2]
      · rw [if_pos x1, x3]
    · rw [if_neg h1]
      unfold rmM
      rw [if_neg h1, f10, if_neg (by omega)]
  have hp : ∀ t, t < n.1 → 0 < rm (σ t) → plM n M' t = pl (σ t) := by
    intro t h1 h2
    unfold plM
    rw [if_pos h1]
    rcases g t h1 with ⟨x1, x2⟩ | ⟨x1, x2, x3, x4⟩
    · omega
    · exact x4
  refine ⟨⟨b1, b2, b3, b4, by rw [f50 0 (by decide)]; exact b5, by rw [f50 1 (by decide)]; exact b6, f10, by omega, fun t ht => ?_, fun t ht hlv => ?_⟩, ?_, fun t ht => ?_⟩
  · rcases g t ht with ⟨x1, x2⟩ | ⟨x1, x2, x3, x4⟩
    · exact Or.inl x1
    · exact Or.inr x1
  · have h1 : t < n.1 := by omega
    have h2 : 0 < rm (σ t) := by
      rcases g t h1 with ⟨x1, x2⟩ | ⟨x1, x2, x3, x4⟩
      · have := hlv h1
        omega
      · exact x2
    rw [hr, if_pos h1, hp t h1 h2]
    have := h0.in (s1 t h1) h2
    omega
  · intro t u ht hu hne h1 h2
    dsimp only at *
    by_cases ht1 : t < n.1
    · by_cases hu1 : u < n.1
      · rw [if_pos ht1] at h1 ⊢
        rw [if_pos hu1] at h2 ⊢
        exact hdj (σ t) (σ u) (s1 t ht1) (s1 u hu1) (fun q => hne (s2 t u ht1 hu1 q)) h1 h2
      · rw [if_neg hu1] at h2; omega
    · rw [if_neg ht1] at h1; omega
  · dsimp only
    rw [hr]
    by_cases h1 : t < n.1
    · rw [if_pos h1]
      exact ⟨rfl, fun z => hp t h1 z⟩
    · rw [if_neg h1]
      exact ⟨rfl, fun q => by omega⟩
/-- handle t gets run σ t; what was taken goes; the numbers are w -/
def gvR (n : Nn) (q : RS) (σ : Nat → Nat) (w : Nat → Nat) : RS := ((fun t => q.1 (σ t)), (fun t => if t < n.1 then q.2.1 (σ t) else 0), q.2.2.1, w)
theorem RN.move {n : Nn} {M M' : Mem} {q : RS} {tk : Nat} {σ : Nat → Nat} {w : Nat → Nat} (R : RN n M tk q) (s1 : ∀ t, t < n.1 → σ t < n.1 + 5) (s2 : ∀ t u, t < n.1 → u < n.1 → σ t = σ u → t = u) (f50 : ∀ j, j ≠ 10 → M' 50 j = M 50 j) (f10 : M' 50 10 = 0) (g : ∀ t, t < n.1 → (M' 53 t = 0 ∧ q.2.1 (σ t) = 0) ∨ (M' 53 t = 1 ∧ 0 < q.2.1 (σ t) ∧ M' 54 t = q.2.1 (σ t) ∧ M' 55 t = q.1 (σ t))) (v : ∀ t, t < n.1 → 0 < q.2.1 (σ t) → MH M' t (w t) ∧ (nd (w t) : Int) ≤ q.2.1 (σ t) ∧ q.2.1 (σ t) ≤ 64) : RN n M' 0 (gvR n q σ w) := by
  refine ⟨R.1.move s1 s2 f50 f10 g, ?_, fun t h1 h2 => ?_, fun t h1 h2 => ?_⟩
  · rw [f50 11 (by decide)]
    exact R.2.1
  · change 0 < (if t < n.1 then q.2.1 (σ t) else 0) at h2
    show _ ≤ (if t < n.1 then q.2.1 (σ t) else 0) ∧ (if t < n.1 then q.2.1 (σ t) else 0) ≤ 64
    rw [if_pos h1] at h2 ⊢
    exact (v t h1 h2).2
  · change 0 < (if t < n.1 then q.2.1 (σ t) else 0) at h2
    rw [if_pos h1] at h2
    exact (v t h1 h2).1
/-- a run that is surely asked for -/
theorem RN.takeP {n : Nn} {M M' : Mem} {tk : Nat} {q : RS} {k x : Int} (R : RN n M tk q) (hk : 0 < k) (h : x = (tkF n.1 n.2.1 tk q.1 q.2.1 k).1 ∧ AgM n M' (tkF n.1 n.2.1 tk q.1 q.2.1 k).2.1 (tkF n.1 n.2.1 tk q.1 q.2.1 k).2.2.1 (tkF n.1 n.2.1 tk q.1 q.2.1 k).2.2.2.1 ∧ M' 50 11 = M 50 11 + (tkF n.1 n.2.1 tk q.1 q.2.1 k).2.2.2.2 ∧ FrT M M') :
    ∃ (pl1 rm1 : Nat → Int) (sl1 : Int), ((x = 1 ∧ (∀ f, tcR n tk q k f = f (tk + 1) (pl1, rm1, sl1, q.2.2.2)) ∧ RN n M' (tk + 1) (pl1, rm1, sl1, q.2.2.2) ∧ rm1 (n.1 + tk) = k) ∨ (x = 0 ∧ RN n M' 0 (pl1, rm1, sl1, q.2.2.2) ∧ ∀ f, tcR n tk q k f = (-4, (pl1, rm1, sl1, q.2.2.2)))) ∧ (∀ h, h < n.1 → rm1 h = q.2.1 h) ∧ FrT M M' := by
  obtain ⟨h1, h2, h3, h4⟩ := h
  have R1 := R.tk h2 h3 h4
  refine ⟨(tkR n tk q k).2.2.1, (tkR n tk q k).2.2.2.1, (tkR n tk q k).2.2.2.2.1, ?_, fun h hh => tkR_rm hh, h4⟩
  rcases tkF_cases (n1 := n.1) (c := n.2.1) (tk := tk) (pl := q.1) (rm := q.2.1) hk with ⟨t1, t2⟩ | ⟨t1, t2, t3⟩
  · have e2 : (tkR n tk q k).2.1 = 0 := t2
    rw [e2] at R1
    exact Or.inr ⟨h1.trans t1, R1, fun f => if_pos t1⟩
  · have e2 : (tkR n tk q k).2.1 = tk + 1 := t2
    rw [e2] at R1
    refine Or.inl ⟨h1.trans t1, fun f => ?_, R1, t3⟩
    unfold tcR
    rw [if_neg (show ¬ (tkR n tk q k).1 = 0 from fun z => by have : (tkR n tk q k).1 = 1 := t1; omega), e2]
    rfl
def rszF (n : Nn) (q : RS) (h k : Int) : Int × RS := if Lv n q h then (if 1 ≤ k ∧ k ≤ 64 ∧ (nd (q.2.2.2 h.toNat) : Int) ≤ k then (if k = q.2.1 h.toNat then (0, q) else tcR n 0 q k (fun _ q1 => (0, gvR n q1 (va_up (fun t => t) h.toNat n.1) q1.2.2.2))) else (-3, q)) else (-2, q)
theorem sg1_lt {n1 h : Nat} : ∀ t, t < n1 → va_up (fun t => t) h n1 t < n1 + 5 := by
  intro t ht
  by_cases c : t = h
  · rw [c, va_up_self]; omega
  · rw [va_up_ne _ _ c]; omega
theorem sg1_in {n1 h : Nat} : ∀ t u, t < n1 → u < n1 → va_up (fun t => t) h n1 t = va_up (fun t => t) h n1 u → t = u := by
  intro t u ht hu e
  by_cases c : t = h
  · by_cases c2 : u = h
    · omega
    · rw [c, va_up_self, va_up_ne _ _ c2] at e
      omega
  · by_cases c2 : u = h
    · rw [c2, va_up_self, va_up_ne _ _ c] at e
      omega
    · rw [va_up_ne _ _ c, va_up_ne _ _ c2] at e
      exact e
theorem v_resize (n0 : Nn) : Ver tX8_resize (fdX8, icX8, lcX8, [(138, some 8, c_isLiveL), (127, none, c_isIn), (131, some 8, c_take)]) 1 3 n0 (cN2 rszF) := by
  rintro ⟨n, q, h, k⟩ vs M0 ⟨rfl, ih, ik, R⟩ aw run
  have ik0 := ik
  unfold inR at ik0
  have l52 : lnF n0 52 = 37 := rfl
  have l54 : lnF n0 54 = 24 := rfl
  have l55 : lnF n0 55 = 24 := rfl
  have l56 : lnF n0 56 = 8 := rfl
  change aw 0 [some (.inr (.inr 50)), some (.inl h), some (.inl k)] [] M0
  refine run 90 [31] _ _ _ _ ?_
  refine And.intro rfl ⟨(n, 0, q, h), ⟨rfl, ih, R⟩, ?_⟩
  rintro x M0 ⟨⟨rfl, hh⟩ | ⟨rfl, hh⟩, rfl⟩
  rotate_left
  · refine And.intro ⟨⟨by omega, by omega⟩, ⟨by omega, by omega⟩⟩ (And.intro (fun c1 => absurd c1 (by omega)) (fun _ => ?_))
    have e : rszF n q h k = (-2, q) := if_neg hh
    refine Or.inl ?_
    show -2 = ((rszF n q h k)).1 ∧ RN n M0 0 ((rszF n q h k)).2 ∧ FN M0 M0
    rw [e]
    exact ⟨rfl, R, FN.rf _⟩
  refine And.intro ⟨⟨by omega, by omega⟩, ⟨by omega, by omega⟩⟩ (And.intro (fun _ => ?_) (fun c2 => absurd c2 (by omega)))
  have b2 := R.n24
  obtain ⟨h, rfl, h_1, h_2⟩ := hh.nat
  have Ah := R.at h_1 h_2
  have e : rszF n q h k = (if 1 ≤ k ∧ k ≤ 64 ∧ (nd (q.2.2.2 h) : Int) ≤ k then (if k = q.2.1 h then (0, q) else tcR n 0 q k (fun _ q1 => (0, gvR n q1 (va_up (fun t => t) h n.1) q1.2.2.2))) else (-3, q)) := if_pos (Lv.of h_1 h_2)
  have bad : ¬ (1 ≤ k ∧ k ≤ 64 ∧ (nd (q.2.2.2 h) : Int) ≤ k) → aw 31 [some (.inr (.inr 50)), some (.inl (h : Int)), some (.inl k)] [] M0 := by
    intro hb
    rw [if_neg hb] at e
    refine run 60 [] _ _ _ _ ?_
    refine Or.inl ?_
    show -3 = ((rszF n q h k)).1 ∧ RN n M0 0 ((rszF n q h k)).2 ∧ FN M0 M0
    rw [e]
    exact ⟨rfl, R, FN.rf _⟩
  obtain ⟨a1, a2, a3, a4, a5, a6, a7, a8⟩ := Ah
  refine ⟨(k, 1, 64), ⟨rfl, ik, ⟨by omega, by omega⟩, ⟨by omega, by omega⟩⟩, ?_⟩
  rintro x M0 ⟨rfl, rfl⟩
  by_cases hin : 1 ≤ k ∧ k ≤ 64
  rotate_left
  · rw [if_neg hin]
    refine And.intro ⟨⟨by omega, by omega⟩, ⟨by omega, by omega⟩⟩ (And.intro (fun _ => ?_) (fun c2 => absurd c2 (by omega)))
    exact And.intro (bad (fun z => hin ⟨z.1, z.2.1⟩)) trivial
  rw [if_pos hin]
  refine And.intro ⟨⟨by omega, by omega⟩, ⟨by omega, by omega⟩⟩ (And.intro (fun c1 => absurd c1 (by omega)) (fun _ => ?_))
  refine And.intro rfl (And.intro ⟨rfl, by omega, by omega⟩ ?_)
  conv => whnf
  rw [Int.toNat_natCast, a8]
  refine And.intro ⟨⟨by omega, by omega⟩, ⟨by omega, by omega⟩⟩ (And.intro (fun c1 => ?_) (fun c2 => ?_))
  rotate_left
  · exact And.intro (bad (fun z => by omega)) trivial
  rw [if_pos ⟨hin.1, hin.2, by omega⟩] at e
  refine And.intro rfl (And.intro ⟨rfl, by omega, by omega⟩ ?_)
  conv => whnf
  rw [Int.toNat_natCast, a2]
  refine And.intro ⟨⟨by omega, by omega⟩, ⟨by omega, by omega⟩⟩ (And.intro (fun c1 => ?_) (fun c2 => ?_))
  rotate_left
  · rw [if_pos (by omega)] at e
    refine Or.inl ?_
    show 0 = ((rszF n q h k)).1 ∧ RN n M0 0 ((rszF n q h k)).2 ∧ FN M0 M0
    rw [e]
    exact ⟨rfl, R, FN.rf _⟩
  rw [if_neg (by omega)] at e
  refine And.intro rfl ⟨(n, 0, q.1, q.2.1, k), ⟨rfl, R.1, by omega, by omega, by omega⟩, ?_⟩
  rintro x M1 hp
  obtain ⟨pl1, rm1, sl1, ho, rk1, hF1⟩ := R.takeP (by omega) hp
  clear hp
  rcases ho with ⟨rfl, hu, R1, hk⟩ | ⟨rfl, R1, hu⟩
  rotate_left
  · refine And.intro ⟨⟨by omega, by omega⟩, ⟨by omega, by omega⟩⟩ (And.intro (fun c1 => absurd c1 (by omega)) (fun _ => ?_))
    refine Or.inl ?_
    show -4 = ((rszF n q h k)).1 ∧ RN n M1 0 ((rszF n q h k)).2 ∧ FN M0 M1
    rw [e, hu]
    exact ⟨rfl, R1, hF1.N⟩
  refine And.intro ⟨⟨by omega, by omega⟩, ⟨by omega, by omega⟩⟩ (And.intro (fun _ => ?_) (fun c2 => absurd c2 (by omega)))
  refine And.intro rfl (And.intro rfl (And.intro ⟨rfl, by omega, by omega⟩ (And.intro ⟨rfl, by omega, by omega⟩ (And.intro rfl (And.intro ⟨rfl, by omega, by omega⟩ (And.intro rfl ?_))))))
  refine Or.inl ?_
  show 0 = ((rszF n q h k)).1 ∧ RN n (up2 (up2 (up2 M1 55 h (M1 56 0)) 54 h k) 50 10 0) 0 ((rszF n q h k)).2 ∧ FN M0 (up2 (up2 (up2 M1 55 h (M1 56 0)) 54 h k) 50 10 0)
  rw [e, hu]
  refine ⟨rfl, ?_, (hF1.N.tr ((FN.up (by omega)).tr (FN.up (by omega)))).tr FN.up10⟩
  have e56 : M1 56 0 = pl1 n.1 := by
    have := (R1.1.2.2 n.1 (by omega)).2 (show 0 < rm1 n.1 by rw [show rm1 n.1 = k from hk]; omega)
    rw [← show plM n M1 n.1 = pl1 n.1 from this]
    unfold plM
    rw [if_neg (by omega), Nat.sub_self]
  refine R1.move sg1_lt sg1_in (fun j hj => by rw [up2_k hj, up2_i (by decide), up2_i (by decide)]) up2_s (fun t ht => ?_) (fun t ht hr => ?_)
  · show _ ∧ rm1 _ = 0 ∨ _ ∧ 0 < rm1 _ ∧ _ = rm1 _ ∧ _ = pl1 _
    by_cases c : t = h
    · subst c
      rw [va_up_self, show rm1 n.1 = k from hk]
      refine Or.inr ⟨?_, by omega, ?_, ?_⟩
      · rw [up2_i (by decide), up2_i (by decide), up2_i (by decide)]
        exact (R1.at ht (ltE h_2 (rk1 t ht))).1
      · rw [up2_i (by decide), up2_s]
      · rw [up2_i (by decide), up2_i (by decide), up2_s, e56]
    · rw [va_up_ne _ _ c, up2_i (by decide), up2_i (by decide), up2_i (by decide), up2_i (by decide), up2_k c, up2_i (by decide), up2_i (by decide), up2_i (by decide), up2_k c]
      by_cases hl : 0 < rm1 t
      · have A := R1.at ht hl
        exact Or.inr ⟨A.1, hl, A.2.1, A.2.2.1⟩
      · have A := R1.dead ht hl
        exact Or.inl ⟨A.1, A.2⟩
  · change 0 < rm1 (va_up (fun t => t) h n.1 t) at hr
    show MH _ t (q.2.2.2 t) ∧ (nd (q.2.2.2 t) : Int) ≤ rm1 (va_up (fun t => t) h n.1 t) ∧ rm1 (va_up (fun t => t) h n.1 t) ≤ 64
    by_cases c : t = h
    · subst c
      have A := R1.at ht (ltE h_2 (rk1 t ht))
      rw [va_up_self, show rm1 n.1 = k from hk]
      refine ⟨A.2.2.2.1.ft ?_ ?_, by omega, by omega⟩
      · rw [up2_i (by decide), up2_i (by decide), up2_i (by decide)]
      · rw [up2_i (by decide), up2_i (by decide), up2_i (by decide)]
    · rw [va_up_ne _ _ c] at hr ⊢
      have A := R1.at ht hr
      refine ⟨A.2.2.2.1.ft ?_ ?_, A.2.2.2.2.2.1, A.2.2.2.2.2.2.1⟩
      · rw [up2_i (by decide), up2_i (by decide), up2_i (by decide)]
      · rw [up2_i (by decide), up2_i (by decide), up2_i (by decide)]
theorem imX8_resize {l : Launch} {Z : ZT} (hZ : ZOk Z) : Impl l Z yX8_resize cX8_resize 3 (some .int) 3 (cN2 rszF) := mkImpl (rt := 1) (CL := [(138, some 8, c_isLiveL), (127, none, c_isIn), (131, some 8, c_take)]) hZ.1 hZ.2.1 (by decide +kernel) kX8_resize fwX8 iwX8 lwX8 trivial (Nat.le_of_ble_eq_true rfl) (List.forall_mem_cons.mpr ⟨gX8_138_L hZ (by decide), List.forall_mem_cons.mpr ⟨gX8_127 hZ (by decide), List.forall_mem_cons.mpr ⟨gX8_131 hZ (by decide), fun q h => absurd h List.not_mem_nil⟩⟩⟩) ((v_resize _))
