/-! ===== runs slid together ===== -/
/-- the rooms of the runs among the first k whose places are below x, together -/
def sumB (pl rm : Nat → Int) (k : Nat) (x : Int) : Int := match k with
  | 0 => 0
  | k + 1 => sumB pl rm k x + (if 0 < rm k ∧ pl k < x then rm k else 0)
theorem sumB_same {pl rm : Nat → Int} {k : Nat} {x x2 : Int} (h : ∀ u, u < k → 0 < rm u → (pl u < x2 ↔ pl u < x)) : sumB pl rm k x2 = sumB pl rm k x := by
  induction k with
  | zero => rfl
  | succ k ih =>
    unfold sumB
    rw [ih (fun u hu => h u (by omega))]
    congr 1
    by_cases hr : 0 < rm k
    · have := h k (by omega) hr
      by_cases h1 : pl k < x
      · rw [if_pos ⟨hr, this.mpr h1⟩, if_pos ⟨hr, h1⟩]
      · rw [if_neg (fun q => h1 (this.mp q.2)), if_neg (fun q => h1 q.2)]
    · rw [if_neg (fun q => hr q.1), if_neg (fun q => hr q.1)]
theorem sumB_one {pl rm : Nat → Int} {k t : Nat} {x x2 : Int} (ht : t < k) (hr : 0 < rm t) (h1 : ¬ pl t < x) (h2 : pl t < x2) (h : ∀ u, u < k → u ≠ t → 0 < rm u → (pl u < x2 ↔ pl u < x)) : sumB pl rm k x2 = sumB pl rm k x + rm t := by
  induction k with
  | zero => omega
  | succ k ih =>
    unfold sumB
    by_cases e : t = k
    · subst e
      rw [if_pos ⟨hr, h2⟩, if_neg (fun q => h1 q.2), sumB_same (fun u hu hr => h u (by omega) (by omega) hr)]
      omega
    · rw [ih (by omega) (fun u hu => h u (by omega))]
      have : (if 0 < rm k ∧ pl k < x2 then rm k else 0) = (if 0 < rm k ∧ pl k < x then rm k else 0) := by
        by_cases hr : 0 < rm k
        · have := h k (by omega) (by omega) hr
          by_cases h1 : pl k < x
          · rw [if_pos ⟨hr, this.mpr h1⟩, if_pos ⟨hr, h1⟩]
          · rw [if_neg (fun q => h1 (this.mp q.2)), if_neg (fun q => h1 q.2)]
        · rw [if_neg (fun q => hr q.1), if_neg (fun q => hr q.1)]
      omega
theorem sumB_0 {pl rm : Nat → Int} {k : Nat} (h : ∀ u, u < k → 0 < rm u → 0 ≤ pl u) : sumB pl rm k 0 = 0 := by
  induction k with
  | zero => rfl
  | succ k ih =>
    unfold sumB
    rw [ih (fun u hu => h u (by omega)), if_neg (fun q => by have := h k (by omega) q.1; omega)]
    rfl
theorem sumB_nn {pl rm : Nat → Int} {k : Nat} {x : Int} : 0 ≤ sumB pl rm k x := by
  induction k with
  | zero => exact Int.le_refl 0
  | succ k ih => unfold sumB; split <;> omega
/-- runs that don't meet -/
def Dj (pl rm : Nat → Int) (k : Nat) : Prop := ∀ t u, t < k → u < k → t ≠ u → 0 < rm t → 0 < rm u → pl t + rm t ≤ pl u ∨ pl u + rm u ≤ pl t
/-- how far the sliding has come: places below x are done -/
def SlI (n : Nn) (M1 M : Mem) (pl rm : Nat → Int) (x y : Int) : Prop :=
  (∀ o, o ≠ 55 → o ≠ 56 → M o = M1 o) ∧ (∀ t, t < n.1 + 5 → ¬ (0 < rm t ∧ pl t < x) → plM n M t = pl t) ∧ (∀ t, t < n.1 + 5 → 0 < rm t → pl t < x → plM n M t = sumB pl rm (n.1 + 5) (pl t) ∧ plM n M t ≤ pl t ∧ pl t + rm t ≤ x) ∧ y = sumB pl rm (n.1 + 5) x ∧ 0 ≤ y ∧ y ≤ x
/-- no run begins at x: one further -/
theorem SlI.skip {n : Nn} {M1 M : Mem} {pl rm : Nat → Int} {x y : Int} (h : SlI n M1 M pl rm x y) (hx : ∀ t, t < n.1 + 5 → 0 < rm t → pl t ≠ x) : SlI n M1 M pl rm (x + 1) y := by
  obtain ⟨h1, h2, h3, h4, h5, h6⟩ := h
  refine ⟨h1, fun t ht hn => h2 t ht (fun q => hn ⟨q.1, by omega⟩), fun t ht hr hp => ?_, ?_, h5, by omega⟩
  · have := hx t ht hr
    have := h3 t ht hr (by omega)
    exact ⟨this.1, this.2.1, by omega⟩
  · rw [h4]
    exact (sumB_same (fun u hu hr => by have := hx u hu hr; omega)).symm
/-- a run that begins at x comes down to y -/
theorem SlI.move {n : Nn} {M1 M M2 : Mem} {pl rm : Nat → Int} {x y : Int} {t : Nat} (h : SlI n M1 M pl rm x y) (hd : Dj pl rm (n.1 + 5)) (ht : t < n.1 + 5) (hr : 0 < rm t) (hx : pl t = x) (hM : ∀ o, o ≠ 55 → o ≠ 56 → M2 o = M o) (hp : plM n M2 t = y) (ho : ∀ u, u < n.1 + 5 → u ≠ t → plM n M2 u = plM n M u) : SlI n M1 M2 pl rm (x + rm t) (y + rm t) := by
  obtain ⟨h1, h2, h3, h4, h5, h6⟩ := h
  have hoth : ∀ u, u < n.1 + 5 → u ≠ t → 0 < rm u → (pl u < x + rm t ↔ pl u < x) := by
    intro u hu hne hru
    rcases hd t u ht hu (fun e => hne e.symm) hr hru with q | q <;> omega
  refine ⟨fun o a b => (hM o a b).trans (h1 o a b), fun u hu hn => ?_, fun u hu hru hpu => ?_, ?_, by omega, by omega⟩
  · by_cases e : u = t
    · subst e
      exact absurd ⟨hr, by omega⟩ hn
    · rw [ho u hu e]
      exact h2 u hu (fun q => hn ⟨q.1, by omega⟩)
  · by_cases e : u = t
    · subst e
      rw [hp, hx]
      exact ⟨h4, h6, by omega⟩
    · rw [ho u hu e]
      have := h3 u hu hru ((hoth u hu e hru).mp hpu)
      exact ⟨this.1, this.2.1, by omega⟩
  · rw [h4]
    exact (sumB_one ht hr (by omega) (by omega) hoth).symm
/-- slide() -/
def c_slide : Call := ⟨Nn × Nat, 1, (fun (n, tk) vs M => vs = [.inr (.inr 50)] ∧ RunM n M tk ∧ Dj (plM n M) (rmM n M) (n.1 + 5)), .inl (fun (n, _) _ M M' => SlI n (up2 M 50 11 (M 50 11 + 1)) M' (plM n M) (rmM n M) (n.2.1 : Int) (sumB (plM n M) (rmM n M) (n.1 + 5) (n.2.1 : Int)))⟩
