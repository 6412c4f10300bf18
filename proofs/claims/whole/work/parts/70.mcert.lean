/-! ===== the words of a certificate ===== -/
def prB (v : Nat) : Bool := decide (2 ≤ v) && decide (∀ d, d < v → 2 ≤ d → v % d ≠ 0)
theorem prB_i {v : Nat} : prB v = true ↔ Pr v := by
  unfold prB Pr
  rw [Bool.and_eq_true, decide_eq_true_iff, decide_eq_true_iff]
  exact ⟨fun z => ⟨z.1, fun d a b => z.2 d b a⟩, fun z => ⟨z.1, fun d a b => z.2 d b a⟩⟩
/-- the primes that divide n among the r numbers from i on -/
def pdv (n i r : Nat) : List Nat := match r with
  | 0 => []
  | r + 1 => if prB i = true ∧ n % i = 0 then i :: pdv n (i + 1) r else pdv n (i + 1) r
theorem pd_mem {n q : Nat} : ∀ {r i : Nat}, q ∈ pdv n i r ↔ i ≤ q ∧ q < i + r ∧ Pr q ∧ n % q = 0 := by
  intro r
  induction r with
  | zero => intro i; exact ⟨fun z => absurd z List.not_mem_nil, fun z => by omega⟩
  | succ r ih =>
    intro i
    rw [pdv]
    by_cases c : prB i = true ∧ n % i = 0
    · rw [if_pos c, List.mem_cons, ih]
      constructor
      · rintro (z | z)
        · subst z
          exact ⟨Nat.le_refl _, by omega, prB_i.mp c.1, c.2⟩
        · exact ⟨by omega, by omega, z.2.2⟩
      · intro z
        by_cases e : q = i
        · exact Or.inl e
        · exact Or.inr ⟨by omega, by omega, z.2.2⟩
    · rw [if_neg c, ih]
      constructor
      · intro z
        exact ⟨by omega, by omega, z.2.2⟩
      · intro z
        have : q ≠ i := fun e => c ⟨prB_i.mpr (e ▸ z.2.2.1), e ▸ z.2.2.2⟩
        exact ⟨by omega, by omega, z.2.2⟩
theorem pd_skip {n : Nat} : ∀ {k i r : Nat}, (∀ j, i ≤ j → j < i + k → ¬ (Pr j ∧ n % j = 0)) → pdv n i (k + r) = pdv n (i + k) r := by
  intro k
  induction k with
  | zero => intro i r _; rw [Nat.zero_add]; rfl
  | succ k ih =>
    intro i r h
    rw [show k + 1 + r = (k + r) + 1 by omega, pdv, if_neg (fun z => h i (Nat.le_refl _) (by omega) ⟨prB_i.mp z.1, z.2⟩), ih (fun j a b => h j (by omega) (by omega))]
    congr 1
    omega
theorem pd_hit {n i r : Nat} (h1 : Pr i) (h2 : n % i = 0) : pdv n i (r + 1) = i :: pdv n (i + 1) r := by
  rw [pdv, if_pos ⟨prB_i.mpr h1, h2⟩]
theorem pd_none {n i r : Nat} (h : ∀ j, i ≤ j → ¬ (Pr j ∧ n % j = 0)) : pdv n i r = [] := by
  have := pd_skip (n := n) (k := r) (i := i) (r := 0) (fun j a _ => h j a)
  rw [Nat.add_zero] at this
  rw [this]
  rfl
def fs (n : Nat) : List Nat := pdv n 2 (n - 1)
def witB (p w : Nat) : Bool := decide (w ^ (p - 1) % p = 1) && (fs (p - 1)).all (fun q => decide (w ^ ((p - 1) / q) % p ≠ 1))
theorem fs_mem {n q : Nat} (hn : 1 ≤ n) : q ∈ fs n ↔ Pr q ∧ q ∣ n := by
  unfold fs
  rw [pd_mem]
  constructor
  · intro z
    exact ⟨z.2.2.1, Nat.dvd_of_mod_eq_zero z.2.2.2⟩
  · intro z
    have := Nat.le_of_dvd (by omega) z.2
    have := z.1.1
    exact ⟨z.1.1, by omega, z.1, Nat.mod_eq_zero_of_dvd z.2⟩
theorem witB_i {p w : Nat} (hp : 2 ≤ p) : witB p w = true ↔ Wit p w := by
  unfold witB Wit OrdP
  rw [Bool.and_eq_true, decide_eq_true_iff, List.all_eq_true]
  constructor
  · intro z
    exact ⟨z.1, fun q a b => by simpa using z.2 q ((fs_mem (by omega)).mpr ⟨a, b⟩)⟩
  · intro z
    refine ⟨z.1, fun q hq => ?_⟩
    have := (fs_mem (by omega)).mp hq
    simpa using z.2 q this.1 this.2
/-- the least witness -/
def lwF (p r w : Nat) : Nat := match r with
  | 0 => w
  | r + 1 => if witB p w = true then w else lwF p r (w + 1)
def lw (p : Nat) : Nat := lwF p p 1
theorem lwF_s {p : Nat} (hp : 2 ≤ p) : ∀ {r w : Nat}, (∃ u, w ≤ u ∧ u < w + r ∧ Wit p u) → Wit p (lwF p r w) ∧ w ≤ lwF p r w ∧ lwF p r w < w + r ∧ ∀ u, w ≤ u → u < lwF p r w → ¬ Wit p u := by
  intro r
  induction r with
  | zero => intro w h; obtain ⟨u, a, b, _⟩ := h; omega
  | succ r ih =>
    intro w h
    rw [lwF]
    by_cases c : witB p w = true
    · rw [if_pos c]
      exact ⟨(witB_i hp).mp c, Nat.le_refl _, by omega, fun u a b => by omega⟩
    · rw [if_neg c]
      obtain ⟨u, a, b, d⟩ := h
      have hu : u ≠ w := fun e => c ((witB_i hp).mpr (e ▸ d))
      have k := ih (w := w + 1) ⟨u, by omega, by omega, d⟩
      refine ⟨k.1, by omega, by omega, fun v a b => ?_⟩
      by_cases e : v = w
      · exact fun z => c ((witB_i hp).mpr (e ▸ z))
      · exact k.2.2.2 v (by omega) b
theorem lw_s {p : Nat} (hp : Pr p) : Wit p (lw p) ∧ 1 ≤ lw p ∧ lw p < p ∧ ∀ u, 1 ≤ u → u < lw p → ¬ Wit p u := by
  have p2 := hp.1
  obtain ⟨w, a, b, c⟩ := wit_ex hp
  have h := lwF_s p2 (r := p) (w := 1) ⟨w, a, by omega, c⟩
  refine ⟨h.1, h.2.1, ?_, h.2.2.2⟩
  rcases Nat.lt_or_ge (lw p) p with z | z
  · exact z
  · exact absurd c (h.2.2.2 w a (by show w < lw p; omega))
def bdy (f : Nat → List Int) (n : Nat) (l : List Nat) : List Int := match l with
  | [] => []
  | q :: r => ((exF q n : Nat) : Int) :: (f q ++ bdy f n r)
/-- the certificate of p, with at most r nodes open -/
def crW (r p : Nat) : List Int := match r with
  | 0 => []
  | r + 1 => if p = 2 then numW 2 else (numW p ++ numW (lw p)) ++ (((fs (p - 1)).length : Nat) : Int) :: bdy (crW r) (p - 1) (fs (p - 1))
/-- more than r nodes would be open -/
def crD (r p : Nat) : Bool := match r with
  | 0 => true
  | r + 1 => if p = 2 then false else (fs (p - 1)).any (crD r)
def FCt (M M' : Mem) : Prop := (∀ o, o ≠ 50 → o ≠ 66 → M' o = M o) ∧ ∀ j, j ≠ 27 → j ≠ 28 → M' 50 j = M 50 j
theorem FCt.rf (M : Mem) : FCt M M := ⟨fun _ _ _ => rfl, fun _ _ _ => rfl⟩
theorem FCt.tr {M M1 M2 : Mem} (h : FCt M M1) (h2 : FCt M1 M2) : FCt M M2 := ⟨fun o a b => (h2.1 o a b).trans (h.1 o a b), fun j a b => (h2.2 j a b).trans (h.2 j a b)⟩
/-- the words l were written from c on -/
def WrO (M M' : Mem) (c : Nat) (l : List Int) : Prop := M' 50 27 = ((c + l.length : Nat) : Int) ∧ (∀ i x, l[i]? = some x → M' 66 (c + i) = x) ∧ (∀ i, i < c → M' 66 i = M 66 i) ∧ FCt M M'
theorem WrO.app {M M1 M2 : Mem} {c : Nat} {l1 l2 : List Int} (h1 : WrO M M1 c l1) (h2 : WrO M1 M2 (c + l1.length) l2) : WrO M M2 c (l1 ++ l2) := by
  refine ⟨by rw [h2.1, List.length_append]; congr 1; omega, fun i x hx => ?_, fun i hi => (h2.2.2.1 i (by omega)).trans (h1.2.2.1 i hi), h1.2.2.2.tr h2.2.2.2⟩
  by_cases c1 : i < l1.length
  · rw [List.getElem?_append_left c1] at hx
    rw [h2.2.2.1 _ (by omega)]
    exact h1.2.1 i x hx
  · rw [List.getElem?_append_right (by omega)] at hx
    have := h2.2.1 _ x hx
    rw [show c + l1.length + (i - l1.length) = c + i by omega] at this
    exact this
theorem wr1_o {M : Mem} {c : Nat} {w : Int} (h : c < 4000) : WrO M (wr1 M c w) c [w] ∧ wr1 M c w 50 28 = M 50 28 := by
  unfold wr1
  rw [if_pos h]
  refine ⟨⟨up2_s, fun i x hx => ?_, fun i hi => ?_, ⟨fun o a b => by rw [up2_i a, up2_i b], fun j a b => by rw [up2_k a, up2_i (by decide)]⟩⟩, by rw [up2_k (by decide), up2_i (by decide)]⟩
  · rw [up2_i (by decide)]
    cases i with
    | zero =>
      rw [Nat.add_zero, up2_s]
      simpa using hx
    | succ i => simp at hx
  · rw [up2_i (by decide), up2_k (by omega)]
theorem wrs_o : ∀ {l : List Int} {M : Mem} {c : Nat}, M 50 27 = (c : Int) → c + l.length ≤ 4000 → WrO M (wrs M c l) c l ∧ wrs M c l 50 28 = M 50 28 := by
  intro l
  induction l with
  | nil =>
    intro M c hc _
    exact ⟨⟨hc, fun i x hx => by simp at hx, fun _ _ => rfl, FCt.rf _⟩, rfl⟩
  | cons w r ih =>
    intro M c hc h
    rw [List.length_cons] at h
    have a := wr1_o (M := M) (c := c) (w := w) (by omega)
    have b := ih (M := wr1 M c w) (c := c + 1) (wr1_c _ _ _) (by omega)
    exact ⟨a.1.app (l1 := [w]) b.1, b.2.trans a.2⟩
theorem WrO.inc {M M1 : Mem} {c : Nat} {A B : List Int} {k k' : Int} (h : WrO M M1 c (A ++ k :: B)) : WrO M (up2 M1 66 (c + A.length) k') c (A ++ k' :: B) ∧ M1 66 (c + A.length) = k := by
  obtain ⟨h1, h2, h3, h4⟩ := h
  refine ⟨⟨by rw [up2_i (by decide), h1]; simp, fun i x hx => ?_, fun i hi => by rw [up2_k (by omega)]; exact h3 i hi, ⟨fun o a b => by rw [up2_i b]; exact h4.1 o a b, fun j a b => by rw [up2_i (by decide)]; exact h4.2 j a b⟩⟩, h2 A.length k (by simp)⟩
  by_cases e : i = A.length
  · subst e
    rw [up2_s]
    simpa using hx
  · rw [up2_k (by omega)]
    refine h2 i x ?_
    by_cases c1 : i < A.length
    · rw [List.getElem?_append_left c1] at hx ⊢
      exact hx
    · rw [List.getElem?_append_right (by omega)] at hx ⊢
      obtain ⟨j, hj⟩ : ∃ j, i - A.length = j + 1 := ⟨i - A.length - 1, by omega⟩
      rw [hj] at hx ⊢
      exact hx
theorem numW_len (v : Nat) : (numW v).length ≤ 3 := by
  unfold numW
  split <;> simp
def c_cert (r : Nat) : Call := ⟨Nat × Nat × Nat, 3, (fun (p, d, c) vs M => vs = [.inr (.inr 50), .inl (p : Int), .inl (d : Int)] ∧ Pr p ∧ p < 1073741824 ∧ d + r = 13 ∧ 1 ≤ d ∧ M 50 27 = (c : Int) ∧ M 50 28 = 0 ∧ c + (crW r p).length ≤ 3900), .inl (fun (p, _, c) _ M M' => (crD r p = false ∧ M' 50 28 = 0 ∧ WrO M M' c (crW r p)) ∨ (crD r p = true ∧ M' 50 28 = 1 ∧ FCt M M'))⟩
theorem v_cert0 (n0 : Nn) : Ver tX8_certificate (fdX8, icX8, lcX8, []) 0 8 n0 (c_cert 0) := by
  rintro ⟨p, d, c⟩ vs M0 ⟨rfl, hp, hp2, hd, hd1, h27, h28, hlen⟩ aw run
  change aw 0 [some (.inr (.inr 50)), some (.inl (p : Int)), some (.inl (d : Int)), none, none, none, none, none] [] M0
  refine run 60 [] _ _ _ _ ?_
  refine And.intro rfl ?_
  refine And.intro ⟨⟨by omega, by omega⟩, ⟨by omega, by omega⟩⟩ (And.intro (fun c1 => absurd c1 (by omega)) (fun _ => ?_))
  refine And.intro ⟨⟨by omega, by omega⟩, ⟨by omega, by omega⟩⟩ (And.intro (fun c1 => absurd c1 (by omega)) (fun _ => ?_))
  refine And.intro ⟨rfl, Or.inr rfl⟩ (And.intro rfl ?_)
  have e : up2 M0 50 28 1 50 28 = 1 := up2_s
  refine And.intro ⟨⟨by omega, by omega⟩, ⟨by omega, by omega⟩⟩ (And.intro (fun _ => ?_) (fun c2 => absurd c2 (by omega)))
  refine Or.inl (Or.inr ⟨rfl, e, ⟨fun o a b => up2_i a, fun j a b => up2_k b⟩⟩)
theorem apc {A B C : List Int} {k : Int} : A ++ k :: B ++ C = A ++ k :: (B ++ C) := by simp
set_option maxHeartbeats 2000000 in
theorem v_cert (r : Nat) (n0 : Nn) : Ver tX8_certificate (fdX8, icX8, lcX8, [(214, some 8, c_writesNumber), (217, none, c_does), (203, some 8, c_writes), (220, some 8, c_cert r)]) 0 8 n0 (c_cert (r + 1)) := by
  rintro ⟨p, d, c⟩ vs M00 ⟨rfl, hp, hp2, hd, hd1, h27a, h28a, hlen⟩ aw run
  have l66 : lnF n0 66 = 4000 := rfl
  have p2 := hp.1
  change aw 0 [some (.inr (.inr 50)), some (.inl (p : Int)), some (.inl (d : Int)), none, none, none, none, none] [] M00
  refine run 90 [53] _ _ _ _ ?_
  refine And.intro rfl ?_
  refine And.intro ⟨⟨by omega, by omega⟩, ⟨by omega, by omega⟩⟩ (And.intro (fun c1 => absurd c1 (by omega)) (fun _ => ?_))
  refine And.intro ⟨⟨by omega, by omega⟩, ⟨by omega, by omega⟩⟩ (And.intro (fun _ => ?_) (fun c2 => absurd c2 (by omega)))
  refine And.intro ⟨rfl, Or.inl rfl⟩ (And.intro rfl ?_)
  have h28 : up2 M00 50 28 0 50 28 = 0 := up2_s
  have h27 : up2 M00 50 28 0 50 27 = (c : Int) := by rw [up2_k (by decide)]; exact h27a
  have h66 : ∀ i, up2 M00 50 28 0 66 i = M00 66 i := fun i => by rw [up2_i (by decide)]
  have f0 : FCt M00 (up2 M00 50 28 0) := ⟨fun o a b => up2_i a, fun j a b => up2_k b⟩
  generalize up2 M00 50 28 0 = M0 at *
  have hn1 := numW_len p
  have hn2 := numW_len (lw p)
  refine And.intro ⟨⟨by omega, by omega⟩, ⟨by omega, by omega⟩⟩ (And.intro (fun c1 => absurd c1 (by omega)) (fun _ => ?_))
  refine And.intro rfl ?_
  refine And.intro ⟨⟨by omega, by omega⟩, ⟨by omega, by omega⟩⟩ (And.intro (fun _ => ?_) (fun c2 => absurd c2 (by omega)))
  refine And.intro rfl ⟨(c, p), ⟨rfl, h27, by omega, hp2⟩, ?_⟩
  rintro M1 rfl
  have base : ∀ {M' : Mem} {l : List Int}, WrO M0 M' c l → WrO M00 M' c l := fun h => ⟨h.1, h.2.1, fun i hi => (h.2.2.1 i hi).trans (h66 i), f0.tr h.2.2.2⟩
  by_cases ep : p = 2
  · have e1 : crW (r + 1) p = numW p := by rw [crW, if_pos ep, ep]
    have e2 : crD (r + 1) p = false := by rw [crD, if_pos ep]
    rw [e1] at hlen
    obtain ⟨a1, a2⟩ := wrs_o (l := numW p) h27 (by omega)
    refine And.intro ⟨⟨by omega, by omega⟩, ⟨by omega, by omega⟩⟩ (And.intro (fun c1 => absurd c1 (by omega)) (fun _ => ?_))
    refine Or.inl (Or.inl ⟨e2, a2.trans h28, ?_⟩)
    show WrO M00 (wrs M0 c (numW p)) c (crW (r + 1) p)
    rw [e1]
    exact base a1
  have e1 : crW (r + 1) p = (numW p ++ numW (lw p)) ++ (((fs (p - 1)).length : Nat) : Int) :: bdy (crW r) (p - 1) (fs (p - 1)) := by rw [crW, if_neg ep]
  have e2 : crD (r + 1) p = (fs (p - 1)).any (crD r) := by rw [crD, if_neg ep]
  have hl2 : (crW (r + 1) p).length = (numW p ++ numW (lw p)).length + 1 + (bdy (crW r) (p - 1) (fs (p - 1))).length := by
    rw [e1, List.length_append, List.length_cons]
    omega
  have hl3 : (numW p ++ numW (lw p)).length = (numW p).length + (numW (lw p)).length := List.length_append
  obtain ⟨a1, a2⟩ := wrs_o (l := numW p) h27 (by omega)
  rw [h28] at a2
  generalize wrs M0 c (numW p) = M1 at *
  obtain ⟨w1, w2, w3, w4⟩ := lw_s hp
  refine And.intro ⟨⟨by omega, by omega⟩, ⟨by omega, by omega⟩⟩ (And.intro (fun _ => ?_) (fun c2 => absurd c2 (by omega)))
  -- the loop over the factors
  have outer : ∀ (m left q k : Nat) (B R : List Int) (FR : List Nat) (M : Mem) (o7 : Option AV), p ≤ q + m → 2 ≤ q → FcI (p - 1) left q → FR = pdv (p - 1) q (p - q) → k + FR.length = (fs (p - 1)).length → B ++ bdy (crW r) (p - 1) FR = bdy (crW r) (p - 1) (fs (p - 1)) → (fs (p - 1)).any (crD r) = FR.any (crD r) → M 50 28 = 0 → WrO M00 M c ((numW p ++ numW (lw p)) ++ (k : Int) :: B) → aw 91 [some (.inr (.inr 50)), some (.inl (p : Int)), some (.inl (d : Int)), some (.inl (lw p : Int)), some (.inl ((c + (numW p ++ numW (lw p)).length : Nat) : Int)), some (.inl (left : Int)), some (.inl (q : Int)), o7] [] M := by
    intro m
    induction m with
    | zero =>
      intro left q k B R FR M o7 hm q2 hI hFR hk hB hany m28 hWr
      have h1 := hI.1
      have h2 := hI.2.1
      have hl : left = 1 := by
        by_cases c : 1 < left
        · have := hI.ge c
          omega
        · omega
      have hF0 : FR = [] := by rw [hFR, show p - q = 0 by omega]; rfl
      subst hl hF0
      refine run 60 [91] _ _ _ _ ?_
      refine And.intro ⟨⟨by omega, by omega⟩, ⟨by omega, by omega⟩⟩ (And.intro (fun _ => ?_) (fun c2 => absurd c2 (by omega)))
      rw [show bdy (crW r) (p - 1) [] = [] from rfl, List.append_nil] at hB
      refine Or.inl (Or.inl ⟨by rw [e2, hany]; rfl, m28, ?_⟩)
      show WrO M00 M c (crW (r + 1) p)
      rw [e1, ← hB, ← hk]
      exact hWr
    | succ m ih =>
      intro left q k B R FR M o7 hm q2 hI hFR hk hB hany m28 hWr
      have h1 := hI.1
      have h2 := hI.2.1
      by_cases hl : 1 < left
      rotate_left
      · have hl : left = 1 := by omega
        have hF0 : FR = [] := by
          rw [hFR]
          refine pd_none (fun j hj hz => ?_)
          have := (hI.2.2.2 j hz.1 hj).1.mpr (Nat.dvd_of_mod_eq_zero hz.2)
          rw [hl] at this
          have := Nat.le_of_dvd (by decide) this
          have := hz.1.1
          omega
        subst hl hF0
        refine run 60 [91] _ _ _ _ ?_
        refine And.intro ⟨⟨by omega, by omega⟩, ⟨by omega, by omega⟩⟩ (And.intro (fun _ => ?_) (fun c2 => absurd c2 (by omega)))
        rw [show bdy (crW r) (p - 1) [] = [] from rfl, List.append_nil] at hB
        refine Or.inl (Or.inl ⟨by rw [e2, hany]; rfl, m28, ?_⟩)
        show WrO M00 M c (crW (r + 1) p)
        rw [e1, ← hB, ← hk]
        exact hWr
      have hql := hI.ge hl
      have go : ∀ Q : Nat, q ≤ Q → Q ≤ left → FcI (p - 1) left Q → FR = pdv (p - 1) Q (p - Q) → aw 111 [some (.inr (.inr 50)), some (.inl (p : Int)), some (.inl (d : Int)), some (.inl (lw p : Int)), some (.inl ((c + (numW p ++ numW (lw p)).length : Nat) : Int)), some (.inl (left : Int)), some (.inl (Q : Int)), o7] [] M := by
        intro Q hq1 hq2 hI hFR
        have em : (left : Int) % (Q : Int) = ((left % Q : Nat) : Int) := (Int.natCast_emod _ _).symm
        have hmq := Nat.mod_lt left (show 0 < Q by omega)
        by_cases cd : left % Q = 0
        rotate_left
        · refine run 60 [91] _ _ _ _ ?_
          refine And.intro ⟨by omega, by omega, ⟨by omega, by omega⟩, ⟨by omega, by omega⟩⟩ ?_
          rw [em]
          refine And.intro ⟨⟨by omega, by omega⟩, ⟨by omega, by omega⟩⟩ (And.intro (fun c1 => absurd c1 (by omega)) (fun _ => ?_))
          refine And.intro ?_ trivial
          refine ih left (Q + 1) k B R FR M o7 (by omega) (by omega) (hI.skip cd) ?_ hk hB hany m28 hWr
          rw [hFR, show p - Q = 1 + (p - (Q + 1)) by omega]
          refine pd_skip (fun j hj1 hj2 hz => ?_)
          obtain rfl : j = Q := by omega
          exact cd (Nat.mod_eq_zero_of_dvd ((hI.2.2.2 j hz.1 (Nat.le_refl _)).1.mpr (Nat.dvd_of_mod_eq_zero hz.2)))
        have hQ := hI.dp (by omega) cd
        have hQn := hI.2.2.2 Q hQ (Nat.le_refl _)
        have hQd : (p - 1) % Q = 0 := Nat.mod_eq_zero_of_dvd (hQn.1.mp (Nat.dvd_of_mod_eq_zero cd))
        have hF1 : FR = Q :: pdv (p - 1) (Q + 1) (p - (Q + 1)) := by
          rw [hFR, show p - Q = (p - (Q + 1)) + 1 by omega]
          exact pd_hit hQ hQd
        obtain ⟨FR', eFR⟩ : ∃ FR', FR' = pdv (p - 1) (Q + 1) (p - (Q + 1)) := ⟨_, rfl⟩
        rw [← eFR] at hF1
        have hB2 : bdy (crW r) (p - 1) FR = ((exF Q (p - 1) : Nat) : Int) :: (crW r Q ++ bdy (crW r) (p - 1) FR') := by rw [hF1, bdy]
        have hbl : B.length + 1 + (crW r Q).length + (bdy (crW r) (p - 1) FR').length = (bdy (crW r) (p - 1) (fs (p - 1))).length := by
          rw [← hB, List.length_append, hB2, List.length_cons, List.length_append]
          omega
        have hk2 : k + 1 + FR'.length = (fs (p - 1)).length := by
          rw [hF1, List.length_cons] at hk
          omega
        have hany2 : (fs (p - 1)).any (crD r) = (crD r Q || FR'.any (crD r)) := by rw [hany, hF1, List.any_cons]
        have inner : ∀ (j L t : Nat), L ≤ j → FcJ (p - 1) L Q → t + exF Q L = exF Q left → t ≤ left → t + L ≤ left → aw 125 [some (.inr (.inr 50)), some (.inl (p : Int)), some (.inl (d : Int)), some (.inl (lw p : Int)), some (.inl ((c + (numW p ++ numW (lw p)).length : Nat) : Int)), some (.inl (L : Int)), some (.inl (Q : Int)), some (.inl (t : Int))] [] M := by
          intro j
          induction j with
          | zero =>
            intro L t hj hJ
            have := hJ.1
            omega
          | succ j ihj =>
            intro L t hj hJ ht ht2 ht3
            have j1 := hJ.1
            have j2 := hJ.2.1
            have em : (L : Int) % (Q : Int) = ((L % Q : Nat) : Int) := (Int.natCast_emod _ _).symm
            have ed : (L : Int) / (Q : Int) = ((L / Q : Nat) : Int) := (Int.natCast_ediv _ _).symm
            have hmq := Nat.mod_lt L (show 0 < Q by omega)
            refine run 90 [91, 125] _ _ _ _ ?_
            refine And.intro ⟨by omega, by omega, ⟨by omega, by omega⟩, ⟨by omega, by omega⟩⟩ ?_
            rw [em]
            by_cases cm : L % Q = 0
            · refine And.intro ⟨⟨by omega, by omega⟩, ⟨by omega, by omega⟩⟩ (And.intro (fun c1 => absurd c1 (by omega)) (fun _ => ?_))
              refine And.intro ⟨by omega, by omega, ⟨by omega, by omega⟩, ⟨by omega, by omega⟩⟩ (And.intro ?_ trivial)
              rw [ed]
              have hlt := Nat.div_lt_self (show 0 < L by omega) (show 1 < Q by omega)
              have hex := exF_s (q := Q) (n := L) (by omega) (by omega) cm
              exact ihj (L / Q) (t + 1) (by omega) (hJ.dv hQ cm) (by omega) (by omega) (by omega)
            · refine And.intro ⟨⟨by omega, by omega⟩, ⟨by omega, by omega⟩⟩ (And.intro (fun _ => ?_) (fun c2 => absurd c2 (by omega)))
              rw [exF_0 cm, Nat.add_zero, hQn.2] at ht
              obtain ⟨i1, i2⟩ := hWr.inc (k' := ((k + 1 : Nat) : Int))
              have hWl := hWr.1
              rw [List.length_append, List.length_cons] at hWl
              refine And.intro rfl (And.intro ⟨rfl, by omega, by omega⟩ (And.intro ⟨rfl, by omega, by omega⟩ ?_))
              conv => whnf
              rw [Int.toNat_natCast, i2, show (k : Int) + 1 = ((k + 1 : Nat) : Int) by omega]
              have g28 : up2 M 66 (c + (numW p ++ numW (lw p)).length) ((k + 1 : Nat) : Int) 50 28 = 0 := by rw [up2_i (by decide)]; exact m28
              generalize up2 M 66 (c + (numW p ++ numW (lw p)).length) ((k + 1 : Nat) : Int) = M3 at *
              have hW3 := i1.1
              refine And.intro rfl ⟨(c + ((numW p ++ numW (lw p)) ++ ((k + 1 : Nat) : Int) :: B).length, (t : Int)), ⟨rfl, hW3, ?_⟩, ?_⟩
              · rw [List.length_append, List.length_cons]
                omega
              rintro M4 rfl
              obtain ⟨b1, b2⟩ := wr1_o (M := M3) (c := c + ((numW p ++ numW (lw p)) ++ ((k + 1 : Nat) : Int) :: B).length) (w := (t : Int)) (by rw [List.length_append, List.length_cons]; omega)
              rw [g28] at b2
              have b3 := i1.app b1
              rw [apc] at b3
              generalize wr1 M3 (c + ((numW p ++ numW (lw p)) ++ ((k + 1 : Nat) : Int) :: B).length) (t : Int) = M4 at *
              have hl4 : ((numW p ++ numW (lw p)) ++ ((k + 1 : Nat) : Int) :: (B ++ [(t : Int)])).length = (numW p ++ numW (lw p)).length + 1 + B.length + 1 := by
                simp only [List.length_append, List.length_cons, List.length_nil]
                omega
              refine And.intro rfl ⟨(Q, d + 1, c + ((numW p ++ numW (lw p)) ++ ((k + 1 : Nat) : Int) :: (B ++ [(t : Int)])).length), ⟨rfl, hQ, by omega, by omega, by omega, b3.1, b2, by omega⟩, ?_⟩
              rintro M5 (⟨d1, d2, d3⟩ | ⟨d1, d2, d3⟩)
              rotate_left
              · refine And.intro rfl ?_
                refine And.intro ⟨⟨by omega, by omega⟩, ⟨by omega, by omega⟩⟩ (And.intro (fun _ => ?_) (fun c2 => absurd c2 (by omega)))
                refine Or.inl (Or.inr ⟨by rw [e2, hany2, d1]; rfl, d2, b3.2.2.2.tr d3⟩)
              have b5 := b3.app d3
              rw [apc] at b5
              have h27 := b5.1
              have hl5 : ((numW p ++ numW (lw p)) ++ ((k + 1 : Nat) : Int) :: (B ++ [(t : Int)] ++ crW r Q)).length = (numW p ++ numW (lw p)).length + 1 + B.length + 1 + (crW r Q).length := by
                simp only [List.length_append, List.length_cons, List.length_nil]
                omega
              refine And.intro rfl ?_
              refine And.intro ⟨⟨by omega, by omega⟩, ⟨by omega, by omega⟩⟩ (And.intro (fun c1 => absurd c1 (by omega)) (fun _ => ?_))
              refine And.intro rfl ?_
              refine And.intro ⟨⟨by omega, by omega⟩, ⟨by omega, by omega⟩⟩ (And.intro (fun _ => ?_) (fun c2 => absurd c2 (by omega)))
              refine And.intro ?_ trivial
              refine ih L (Q + 1) (k + 1) (B ++ [(t : Int)] ++ crW r Q) R FR' M5 _ (by omega) (by omega) (hJ.I cm) eFR hk2 ?_ ?_ d2 b5
              · rw [← hB, hB2, ← ht]
                simp
              · rw [hany2, d1]
                rfl
        refine run 60 [125] _ _ _ _ ?_
        refine And.intro ⟨by omega, by omega, ⟨by omega, by omega⟩, ⟨by omega, by omega⟩⟩ ?_
        rw [em]
        refine And.intro ⟨⟨by omega, by omega⟩, ⟨by omega, by omega⟩⟩ (And.intro (fun _ => ?_) (fun c2 => absurd c2 (by omega)))
        refine And.intro ?_ trivial
        exact inner left left 0 (Nat.le_refl _) hI.J (Nat.zero_add _) (Nat.zero_le _) (by omega)
      have ed : (left : Int) / (q : Int) = ((left / q : Nat) : Int) := (Int.natCast_ediv _ _).symm
      have edl := Nat.div_le_self left q
      obtain ⟨z, ez⟩ : ∃ z, z = left / q := ⟨_, rfl⟩
      rw [← ez] at ed edl
      refine run 60 [91, 111] _ _ _ _ ?_
      refine And.intro ⟨⟨by omega, by omega⟩, ⟨by omega, by omega⟩⟩ (And.intro (fun c1 => absurd c1 (by omega)) (fun _ => ?_))
      refine And.intro ⟨by omega, by omega, ⟨by omega, by omega⟩, ⟨by omega, by omega⟩⟩ ?_
      rw [ed]
      by_cases cq : z < q
      · have hPl := hI.pr hl (by rw [← ez]; exact cq)
        refine And.intro ⟨⟨by omega, by omega⟩, ⟨by omega, by omega⟩⟩ (And.intro (fun c1 => absurd c1 (by omega)) (fun _ => ?_))
        refine And.intro ?_ trivial
        refine go left hql (Nat.le_refl _) (hI.jump hPl) ?_
        rw [hFR, show p - q = (left - q) + (p - left) by omega]
        have := pd_skip (n := p - 1) (k := left - q) (i := q) (r := p - left) (fun j hj1 hj2 hz => ?_)
        · rw [this, show q + (left - q) = left by omega]
        · have h9 := (hI.2.2.2 j hz.1 hj1).1.mpr (Nat.dvd_of_mod_eq_zero hz.2)
          exact absurd (Nat.mod_eq_zero_of_dvd h9) (hPl.2 j hz.1.1 (by omega))
      · refine And.intro ⟨⟨by omega, by omega⟩, ⟨by omega, by omega⟩⟩ (And.intro (fun _ => ?_) (fun c2 => absurd c2 (by omega)))
        exact And.intro (go q (Nat.le_refl _) hql hI hFR) trivial
  have wl : ∀ (m w : Nat), 1 ≤ w → w + m = lw p → aw 53 [some (.inr (.inr 50)), some (.inl (p : Int)), some (.inl (d : Int)), some (.inl (w : Int)), none, none, none, none] [] M1 := by
    intro m
    induction m with
    | zero =>
      intro w hw1 hwe
      obtain rfl : w = lw p := by omega
      refine run 90 [91] _ _ _ _ ?_
      refine ⟨(lw p, p), ⟨rfl, p2, hp2, by omega⟩, ?_⟩
      rintro x M1 ⟨⟨rfl, hW⟩ | ⟨rfl, hW⟩, rfl⟩
      rotate_left
      · exact absurd w1 hW
      refine And.intro ⟨⟨by omega, by omega⟩, ⟨by omega, by omega⟩⟩ (And.intro (fun _ => ?_) (fun c2 => absurd c2 (by omega)))
      have m27 := a1.1
      refine And.intro rfl ⟨(c + (numW p).length, lw p), ⟨rfl, m27, by omega, by omega⟩, ?_⟩
      rintro M2 rfl
      obtain ⟨b1, b2⟩ := wrs_o (l := numW (lw p)) m27 (by omega)
      rw [a2] at b2
      have b3 := a1.app b1
      generalize wrs M1 (c + (numW p).length) (numW (lw p)) = M2 at *
      have b27 := b3.1
      refine And.intro rfl ?_
      conv => whnf
      rw [b27]
      refine And.intro rfl ⟨(c + (numW p ++ numW (lw p)).length, 0), ⟨rfl, b27, by omega⟩, ?_⟩
      rintro M3 rfl
      obtain ⟨c1, c2⟩ := wr1_o (M := M2) (c := c + (numW p ++ numW (lw p)).length) (w := 0) (by omega)
      rw [b2] at c2
      have c3 := b3.app c1
      refine And.intro ?_ trivial
      rw [show (p : Int) - 1 = ((p - 1 : Nat) : Int) by omega]
      refine outer p (p - 1) 2 0 [] [] (fs (p - 1)) _ none (by omega) (by omega) (FcI.z (by omega)) ?_ (by omega) rfl rfl c2 (base c3)
      unfold fs
      rw [show p - 1 - 1 = p - 2 by omega]
    | succ m ih =>
      intro w hw1 hwe
      refine run 60 [53] _ _ _ _ ?_
      refine ⟨(w, p), ⟨rfl, p2, hp2, by omega⟩, ?_⟩
      rintro x M1 ⟨⟨rfl, hW⟩ | ⟨rfl, hW⟩, rfl⟩
      · exact absurd hW (w4 w hw1 (by omega))
      refine And.intro ⟨⟨by omega, by omega⟩, ⟨by omega, by omega⟩⟩ (And.intro (fun c1 => absurd c1 (by omega)) (fun _ => ?_))
      refine And.intro ?_ trivial
      exact ih (w + 1) (by omega) (by omega)
  refine And.intro ?_ trivial
  exact wl (lw p - 1) 1 (Nat.le_refl _) (by omega)
theorem imX8_cert {l : Launch} {Z : ZT} (hZ : ZOk Z) : ∀ r : Nat, Impl l Z yX8_certificate cX8_certificate 8 none (4 + r) (c_cert r) := by
  intro r
  induction r with
  | zero => exact mkImpl (rt := 0) (CL := []) hZ.1 hZ.2.1 (by decide +kernel) kX8_certificate fwX8 iwX8 lwX8 trivial (Nat.le_of_ble_eq_true rfl) (fun q h => absurd h List.not_mem_nil) (v_cert0 _)
  | succ r ih => exact mkImpl (rt := 0) (CL := [(214, some 8, c_writesNumber), (217, none, c_does), (203, some 8, c_writes), (220, some 8, c_cert r)]) hZ.1 hZ.2.1 (by decide +kernel) kX8_certificate fwX8 iwX8 lwX8 trivial (Nat.le_of_ble_eq_true rfl) (List.forall_mem_cons.mpr ⟨gX8_214 hZ (by omega), List.forall_mem_cons.mpr ⟨gX8_217 hZ (by omega), List.forall_mem_cons.mpr ⟨gX8_203 hZ (by omega), List.forall_mem_cons.mpr ⟨fun p e s m args below meth c Q cc nL x0 X => callOk_V X ih (by decide) rfl mlX8_220 iw_yX8_certificate vw_yX8_certificate nw_RX8 cw_yX8_certificate ⟨by decide +kernel, by decide +kernel, show (parseMethodDescriptor yX8_certificate.desc).map (fun d => d.parameters.length) = some 2 by decide +kernel⟩ ⟨by omega, by decide⟩, fun q h => absurd h List.not_mem_nil⟩⟩⟩⟩) (v_cert r _)
theorem gX8_220 {l : Launch} {Z : ZT} (hZ : ZOk Z) {d : Nat} (hd : 17 ≤ d) : CallI l Z RX8 d (220, some 8, c_cert 12) := fun p e s m args below meth c Q cc nL x0 X => callOk_V X (imX8_cert hZ 12) (by decide) rfl mlX8_220 iw_yX8_certificate vw_yX8_certificate nw_RX8 cw_yX8_certificate ⟨by decide +kernel, by decide +kernel, by decide +kernel⟩ ⟨hd, by decide⟩

