/-! ===== the reference: divmod, its two runs ===== -/
theorem AgM.pl56 {n : Nn} {M : Mem} {pl rm : Nat → Int} {tk i : Nat} (h : AgM n M pl rm tk) (hi : i < 5) (hr : 0 < rm (n.1 + i)) : M 56 i = pl (n.1 + i) := by
  have := (h.2.2 (n.1 + i) (by omega)).2 hr
  rw [← this]
  unfold plM
  rw [if_neg (by omega), show n.1 + i - n.1 = i by omega]
theorem tkF_rm2 {n1 c tk : Nat} {pl rm : Nat → Int} {k : Int} (h : (tkF n1 c tk pl rm k).1 = 1) {t : Nat} (ht : t ≠ n1 + tk) : (tkF n1 c tk pl rm k).2.2.1 t = rm t := by
  unfold tkF at h ⊢
  split
  · rfl
  · split
    · exact va_up_ne _ _ ht
    · split
      · exact va_up_ne _ _ ht
      · rw [if_neg (by assumption), if_neg (by assumption), if_neg (by assumption)] at h
        exact absurd h (show ¬ (0 : Int) = 1 by decide)
theorem tcR_0 {n : Nn} {tk : Nat} {q : RS} {f : Nat → RS → Int × RS} : tcR n tk q 0 f = f tk q := by
  have e : tkR n tk q 0 = (1, tk, q) := by
    unfold tkR tkF
    rw [if_pos (by decide)]
    show (1, tk, (q.1, q.2.1, q.2.2.1 + 0, q.2.2.2)) = (1, tk, q)
    rw [Int.add_zero]
  unfold tcR
  rw [e, if_neg (show ¬ (1 : Int) = 0 by decide)]
/-- what a number that is brought does to the rows: it lies in handle h's own run, or in taken run i -/
def PhM (M M' : Mem) (h v i : Nat) : Prop := MH M' h v ∧ (∀ o, o ≠ 51 → o ≠ 52 → o ≠ 54 → o ≠ 55 → M' o = M o) ∧ (∀ s, s ≠ h → M' 52 s = M 52 s ∧ M' 54 s = M 54 s ∧ M' 55 s = M 55 s) ∧ (∀ j, (j < 420 * h ∨ 420 * h + 420 ≤ j) → M' 51 j = M 51 j) ∧ M' 54 h = (if (nd v : Int) ≤ M 54 h then M 54 h else (nd v : Int)) ∧ M' 55 h = (if (nd v : Int) ≤ M 54 h then M 55 h else M 56 i)
theorem PhM.keep {M M' : Mem} {h v i s u : Nat} (P : PhM M M' h v i) (hs : s ≠ h) (hv : MH M s u) (hn : nd u ≤ 420) : MH M' s u := by
  refine ⟨((P.2.2.1 s hs).1).trans hv.1, fun j hj => ?_⟩
  show M' 51 (420 * s + j) = _
  rw [P.2.2.2.1 _ (by omega)]
  exact hv.2 j hj
theorem PhM.mk {M M1 M2 : Mem} {h v i : Nat} (h1 : M1 = if (nd v : Int) ≤ M 54 h then M else up2 (up2 M 55 h (M 56 i)) 54 h (nd v : Int)) (h2 : MH M2 h v) (h3 : FrM M1 M2 h) : PhM M M2 h v i := by
  subst h1
  refine ⟨h2, fun o a b c d => ?_, fun s hs => ⟨?_, ?_, ?_⟩, fun j hj => ?_, ?_, ?_⟩
  · rw [h3.1 o a b]
    split
    · rfl
    · rw [up2_i c, up2_i d]
  · rw [h3.2.1 s hs]
    split
    · rfl
    · rw [up2_i (by decide), up2_i (by decide)]
  · rw [h3.1 54 (by decide) (by decide)]
    split
    · rfl
    · rw [up2_k hs, up2_i (by decide)]
  · rw [h3.1 55 (by decide) (by decide)]
    split
    · rfl
    · rw [up2_i (by decide), up2_k hs]
  · rw [h3.2.2 j hj]
    split
    · rfl
    · rw [up2_i (by decide), up2_i (by decide)]
  · rw [h3.1 54 (by decide) (by decide)]
    split
    · rfl
    · rw [up2_s]
  · rw [h3.1 55 (by decide) (by decide)]
    split
    · rfl
    · rw [up2_i (by decide), up2_s]
/-- the handles' runs are the runs σ of the tables q -/
def GN (n : Nn) (M M' : Mem) (q : RS) (σ : Nat → Nat) (w : Nat → Nat) : Prop := (∀ o, o ≠ 51 → o ≠ 52 → o ≠ 54 → o ≠ 55 → M' o = M o) ∧ (∀ t, t < n.1 → σ t < n.1 + 5) ∧ (∀ t u, t < n.1 → u < n.1 → σ t = σ u → t = u) ∧ (∀ t, t < n.1 → (M' 53 t = 0 ∧ q.2.1 (σ t) = 0) ∨ (M' 53 t = 1 ∧ 0 < q.2.1 (σ t) ∧ M' 54 t = q.2.1 (σ t) ∧ M' 55 t = q.1 (σ t))) ∧ ∀ t, t < n.1 → 0 < q.2.1 (σ t) → MH M' t (w t) ∧ (nd (w t) : Int) ≤ q.2.1 (σ t) ∧ q.2.1 (σ t) ≤ 64
theorem RN.G {n : Nn} {M : Mem} {q : RS} {tk : Nat} (R : RN n M tk q) : GN n M M q (fun t => t) q.2.2.2 := by
  refine ⟨fun _ _ _ _ _ => rfl, fun t h => ?_, fun t u _ _ h => h, fun t h => ?_, fun t h hl => ?_⟩
  · show t < n.1 + 5
    omega
  · by_cases hl : 0 < q.2.1 t
    · have A := R.at h hl
      exact Or.inr ⟨A.1, hl, A.2.1, A.2.2.1⟩
    · have A := R.dead h hl
      exact Or.inl ⟨A.1, A.2⟩
  · have A := R.at h hl
    exact ⟨A.2.2.2.1, A.2.2.2.2.2.1, A.2.2.2.2.2.2.1⟩
theorem GN.st {n : Nn} {M M1 M2 : Mem} {q : RS} {σ w : Nat → Nat} {h v i tk : Nat} {k : Int} (R : RN n M tk q) (G : GN n M M1 q σ w) (P : PhM M1 M2 h v i) (h1 : h < n.1) (hs : σ h = h) (hl : 0 < q.2.1 h) (c : (k ≤ 0 ∧ (nd v : Int) ≤ q.2.1 h) ∨ (0 < k ∧ q.2.1 h < (nd v : Int) ∧ nd v ≤ 64 ∧ i < 5 ∧ q.2.1 (n.1 + i) = (nd v : Int) ∧ ∀ t, t < n.1 → σ t ≠ n.1 + i)) : GN n M M2 q (if 0 < k then va_up σ h (n.1 + i) else σ) (va_up w h v) := by
  obtain ⟨g1, g2, g3, g4, g5⟩ := G
  have n24 := R.n24
  obtain ⟨p1, p2, p3, p4, p5, p6⟩ := id P
  have g4h := g4 h h1
  rw [hs] at g4h
  obtain ⟨m1, m2, m3, m4⟩ : M1 53 h = 1 ∧ 0 < q.2.1 h ∧ M1 54 h = q.2.1 h ∧ M1 55 h = q.1 h := by
    rcases g4h with z | z
    · omega
    · exact z
  have m5 := (g5 h h1 (by rw [hs]; exact hl)).2.2
  rw [hs] at m5
  refine ⟨fun o a b c d => (p2 o a b c d).trans (g1 o a b c d), ?_⟩
  have f53 : M2 53 = M1 53 := p2 53 (by decide) (by decide) (by decide) (by decide)
  rcases c with ⟨c1, c2⟩ | ⟨c1, c2, c3, c4, c5, c6⟩
  · rw [if_neg (by omega)]
    refine ⟨g2, g3, fun t ht => ?_, fun t ht hr => ?_⟩
    · rw [f53]
      by_cases e : t = h
      · subst e
        rw [hs, p5, p6, if_pos (by omega), if_pos (by omega)]
        exact Or.inr ⟨m1, m2, m3, m4⟩
      · rw [(p3 t e).2.1, (p3 t e).2.2]
        exact g4 t ht
    · by_cases e : t = h
      · subst e
        rw [va_up_self, hs]
        exact ⟨p1, c2, m5⟩
      · rw [va_up_ne _ _ e]
        have g := g5 t ht hr
        exact ⟨P.keep e g.1 (by omega), g.2⟩
  · rw [if_pos c1]
    have e56 : M1 56 i = q.1 (n.1 + i) := by
      rw [g1 56 (by decide) (by decide) (by decide) (by decide)]
      exact R.1.pl56 c4 (by omega)
    refine ⟨fun t ht => ?_, fun t u ht hu he => ?_, fun t ht => ?_, fun t ht hr => ?_⟩
    · by_cases e : t = h
      · rw [e, va_up_self]; omega
      · rw [va_up_ne _ _ e]; exact g2 t ht
    · by_cases e : t = h
      · by_cases e2 : u = h
        · omega
        · rw [e, va_up_self, va_up_ne _ _ e2] at he
          exact absurd he.symm (c6 u hu)
      · by_cases e2 : u = h
        · rw [e2, va_up_self, va_up_ne _ _ e] at he
          exact absurd he (c6 t ht)
        · rw [va_up_ne _ _ e, va_up_ne _ _ e2] at he
          exact g3 t u ht hu he
    · rw [f53]
      by_cases e : t = h
      · subst e
        rw [va_up_self, p5, p6, if_neg (by omega), if_neg (by omega)]
        exact Or.inr ⟨m1, by omega, c5.symm, e56⟩
      · rw [va_up_ne _ _ e, (p3 t e).2.1, (p3 t e).2.2]
        exact g4 t ht
    · by_cases e : t = h
      · subst e
        rw [va_up_self, va_up_self]
        exact ⟨p1, by omega, by omega⟩
      · rw [va_up_ne _ _ e] at hr ⊢
        rw [va_up_ne _ _ e]
        have g := g5 t ht hr
        exact ⟨P.keep e g.1 (by omega), g.2⟩
theorem GN.R {n : Nn} {M M' : Mem} {q : RS} {σ w : Nat → Nat} {tk : Nat} (R : RN n M tk q) (G : GN n M M' q σ w) : RN n (up2 M' 50 10 0) 0 (gvR n q σ w) := by
  obtain ⟨g1, g2, g3, g4, g5⟩ := G
  refine R.move g2 g3 (fun j hj => by rw [up2_k hj, g1 50 (by decide) (by decide) (by decide) (by decide)]) up2_s (fun t ht => ?_) (fun t ht hr => ?_)
  · rw [up2_i (by decide), up2_i (by decide), up2_i (by decide)]
    exact g4 t ht
  · have g := g5 t ht hr
    exact ⟨g.1.ft (up2_i (by decide)) (up2_i (by decide)), g.2⟩
theorem GN.N {n : Nn} {M M' : Mem} {q : RS} {σ w : Nat → Nat} (G : GN n M M' q σ w) : FN M M' := ⟨fun o a => G.1 o (by omega) (by omega) (by omega) (by omega), fun j _ _ => by rw [G.1 50 (by decide) (by decide) (by decide) (by decide)]⟩
/-- how long a run a number wants ahead: none if it fits, or if nobody wants it -/
def kqF (q : RS) (x : Int) (v : Nat) : Int := if x ≠ -1 ∧ q.2.1 x.toNat < (nd v : Int) then (nd v : Int) else 0
def sgF (k : Int) (σ : Nat → Nat) (x : Int) (i : Nat) : Nat → Nat := if 0 < k then va_up σ x.toNat i else σ
def vlF (x : Int) (w : Nat → Nat) (v : Nat) : Nat → Nat := if x = -1 then w else va_up w x.toNat v
def dvG (n : Nn) (q : RS) (x y : Int) (va vb : Nat) : Int × RS :=
  tcR n 0 q ((nd va : Int) + 1) (fun t1 q1 => tcR n t1 q1 (nd vb : Int) (fun t2 q2 => tcR n t2 q2 ((nd va : Int) - (nd vb : Int) + 1) (fun t3 q3 =>
  tcR n t3 q3 (kqF q x (va / vb)) (fun t4 q4 => tcR n t4 q4 (kqF q y (va % vb)) (fun _ q5 =>
  ((nd (va / vb) : Int), gvR n q5 (sgF (kqF q y (va % vb)) (sgF (kqF q x (va / vb)) (fun t => t) x (n.1 + t3)) y (n.1 + t4)) (vlF y (vlF x q.2.2.2 (va / vb)) (va % vb))))))))
def dvmF (n : Nn) (q : RS) (x y a b : Int) : Int × RS := if (x = -1 ∨ Lv n q x) ∧ (y = -1 ∨ Lv n q y) ∧ Lv n q a ∧ Lv n q b then (if q.2.2.2 b.toNat = 0 then (-6, q) else if x = y ∧ x ≠ -1 then (-7, q) else dvG n q x y (q.2.2.2 a.toNat) (q.2.2.2 b.toNat)) else (-2, q)
