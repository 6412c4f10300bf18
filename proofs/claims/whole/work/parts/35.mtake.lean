/-! ===== runs taken ===== -/
theorem sumB_add {pl rm : Nat → Int} {k t : Nat} {x x2 : Int} (ht : t < k) (hr : 0 < rm t) (h1 : x ≤ pl t) (h2 : pl t < x2) : sumB pl rm k x + rm t ≤ sumB pl rm k x2 := by
  induction k with
  | zero => omega
  | succ k ih =>
    have mono : ∀ j, sumB pl rm j x ≤ sumB pl rm j x2 := by
      intro j
      induction j with
      | zero => exact Int.le_refl _
      | succ j ihj =>
        unfold sumB
        by_cases hc : 0 < rm j ∧ pl j < x
        · rw [if_pos hc, if_pos ⟨hc.1, by omega⟩]; omega
        · rw [if_neg hc]
          split <;> omega
    unfold sumB
    by_cases e : t = k
    · subst e
      rw [if_neg (fun q => by omega), if_pos ⟨hr, h2⟩]
      have := mono t
      omega
    · have := ih (by omega)
      by_cases hc : 0 < rm k ∧ pl k < x
      · rw [if_pos hc, if_pos ⟨hc.1, by omega⟩]; omega
      · rw [if_neg hc]
        split <;> omega
theorem sumB_cong {pl rm pl2 rm2 : Nat → Int} {k : Nat} (x : Int) (h : ∀ t, t < k → rm2 t = rm t ∧ (0 < rm t → pl2 t = pl t)) : sumB pl2 rm2 k x = sumB pl rm k x := by
  induction k with
  | zero => rfl
  | succ k ih =>
    unfold sumB
    rw [ih (fun t ht => h t (by omega)), (h k (by omega)).1]
    by_cases hr : 0 < rm k
    · rw [(h k (by omega)).2 hr]
    · rw [if_neg (fun q => hr q.1), if_neg (fun q => hr q.1)]
/-- two tables of runs say the same -/
def Ag (k : Nat) (pl rm pl2 rm2 : Nat → Int) : Prop := ∀ t, t < k → rm2 t = rm t ∧ (0 < rm t → pl2 t = pl t)
theorem Ag.dj {k : Nat} {pl rm pl2 rm2 : Nat → Int} (h : Ag k pl rm pl2 rm2) (hd : Dj pl rm k) : Dj pl2 rm2 k := by
  intro t u ht hu hne hr1 hr2
  rw [(h t ht).1] at hr1
  rw [(h u hu).1] at hr2
  rw [(h t ht).1, (h u hu).1, (h t ht).2 hr1, (h u hu).2 hr2]
  exact hd t u ht hu hne hr1 hr2
/-- the runs as they lie once they are slid -/
def slP (pl rm : Nat → Int) (k : Nat) : Nat → Int := fun t => sumB pl rm k (pl t)
theorem slP_dj {pl rm : Nat → Int} {k : Nat} (hd : Dj pl rm k) : Dj (slP pl rm k) rm k := by
  intro t u ht hu hne hr1 hr2
  rcases hd t u ht hu hne hr1 hr2 with h | h
  · exact Or.inl (sumB_add (x := pl t) (x2 := pl u) ht hr1 (by omega) (by omega))
  · exact Or.inr (sumB_add (x := pl u) (x2 := pl t) hu hr2 (by omega) (by omega))
/-- the new run lies behind all others -/
theorem tk_dj {pl rm : Nat → Int} {k j : Nat} {e c : Int} (hd : Dj pl rm k) (hj : j < k) (h0 : rm j = 0) (he : mxE pl rm k ≤ e) : Dj (va_up pl j e) (va_up rm j c) k := by
  intro t u ht hu hne hr1 hr2
  by_cases h1 : t = j
  · subst h1
    rw [va_up_self, va_up_self, va_up_ne _ _ (fun q => hne q.symm), va_up_ne _ _ (fun q => hne q.symm)] at *
    have := mxE_ge (pl := pl) (rm := rm) hu hr2
    exact Or.inr (by omega)
  · by_cases h2 : u = j
    · subst h2
      rw [va_up_self, va_up_self, va_up_ne _ _ h1, va_up_ne _ _ h1] at *
      have := mxE_ge (pl := pl) (rm := rm) ht hr1
      exact Or.inl (by omega)
    · rw [va_up_ne _ _ h1, va_up_ne _ _ h2, va_up_ne _ _ h1, va_up_ne _ _ h2] at *
      exact hd t u ht hu hne hr1 hr2
/-- take(k) as a function: the answer, the new tables, how many are taken, how often it slid -/
def tkF (n1 c tk : Nat) (pl rm : Nat → Int) (k : Int) : Int × (Nat → Int) × (Nat → Int) × Nat × Int :=
  if k ≤ 0 then (1, pl, rm, tk, 0)
  else if mxE pl rm (n1 + 5) + k ≤ (c : Int) then (1, va_up pl (n1 + tk) (mxE pl rm (n1 + 5)), va_up rm (n1 + tk) k, tk + 1, 0)
  else if mxE (slP pl rm (n1 + 5)) rm (n1 + 5) + k ≤ (c : Int) then (1, va_up (slP pl rm (n1 + 5)) (n1 + tk) (mxE (slP pl rm (n1 + 5)) rm (n1 + 5)), va_up rm (n1 + tk) k, tk + 1, 1)
  else (0, slP pl rm (n1 + 5), (fun t => if t < n1 then rm t else 0), 0, 1)
/-- the reference's runs are these, tk of them taken -/
def AgM (n : Nn) (M : Mem) (pl rm : Nat → Int) (tk : Nat) : Prop := RunM n M tk ∧ Dj pl rm (n.1 + 5) ∧ Ag (n.1 + 5) pl rm (plM n M) (rmM n M)
