/-! ===== the reference: take ===== -/
/-- of the reference only places, taken runs and the two counts changed -/
def FrT (M M' : Mem) : Prop := (∀ o, o ≠ 50 → o ≠ 55 → o ≠ 56 → o ≠ 57 → M' o = M o) ∧ ∀ j, j ≠ 10 → j ≠ 11 → M' 50 j = M 50 j
theorem FrT.rf (M : Mem) : FrT M M := ⟨fun _ _ _ _ _ => rfl, fun _ _ _ => rfl⟩
theorem FrT.tr {M M1 M2 : Mem} (h : FrT M M1) (h2 : FrT M1 M2) : FrT M M2 := ⟨fun o a b c d => (h2.1 o a b c d).trans (h.1 o a b c d), fun j a b => (h2.2 j a b).trans (h.2 j a b)⟩
theorem AgM.E {n : Nn} {M : Mem} {pl rm : Nat → Int} {tk : Nat} (h : AgM n M pl rm tk) : mxE (plM n M) (rmM n M) (n.1 + 5) = mxE pl rm (n.1 + 5) := mxE_cong h.2.2
theorem AgM.none {n : Nn} {M : Mem} {pl rm : Nat → Int} {tk t : Nat} (h : AgM n M pl rm tk) (h1 : n.1 + tk ≤ t) (h2 : t < n.1 + 5) : rm t = 0 := by rw [← (h.2.2 t h2).1]; exact h.1.none h1
theorem AgM.in {n : Nn} {M : Mem} {pl rm : Nat → Int} {tk t : Nat} (h : AgM n M pl rm tk) (ht : t < n.1 + 5) (hr : 0 < rm t) : 0 ≤ pl t ∧ pl t + rm t ≤ (n.2.1 : Int) := by
  obtain ⟨hR, hd, ha⟩ := h
  have hR0 := hR
  obtain ⟨b1, b2, b3, b4, b5, b6, b7, b8, b9, b10⟩ := hR
  have e := ha t ht
  rw [← e.1] at hr
  have hr2 : 0 < rm t := by rw [← e.1]; exact hr
  by_cases hlive : t < n.1 ∧ M 53 t ≠ 1
  · rw [hR0.free hlive.1 hlive.2] at hr; omega
  · by_cases htk : t < n.1 + tk
    · have := b10 t htk (fun q => by
        rcases b9 t q with e | e
        · exact absurd ⟨q, by omega⟩ hlive
        · exact e)
      rw [e.1, e.2 hr2] at this
      exact ⟨this.2.1, this.2.2⟩
    · rw [hR0.none (by omega)] at hr; omega
/-- one run more -/
theorem AgM.add {n : Nn} {M : Mem} {pl rm : Nat → Int} {tk : Nat} {e k : Int} (h : AgM n M pl rm tk) (htk : tk ≤ 4) (he : e = mxE pl rm (n.1 + 5)) (hk : 1 ≤ k) (hc : e + k ≤ (n.2.1 : Int)) : AgM n (up2 (up2 (up2 M 56 tk e) 57 tk k) 50 10 (tk + 1 : Nat)) (va_up pl (n.1 + tk) e) (va_up rm (n.1 + tk) k) (tk + 1) := by
  have h0 := h
  obtain ⟨hR, hd, ha⟩ := h
  have hR0 := hR
  obtain ⟨b1, b2, b3, b4, b5, b6, b7, b8, b9, b10⟩ := hR
  obtain ⟨M', eM⟩ : ∃ M' : Mem, M' = up2 (up2 (up2 M 56 tk e) 57 tk k) 50 10 (tk + 1 : Nat) := ⟨_, rfl⟩
  have f50 : ∀ j, j ≠ 10 → M' 50 j = M 50 j := fun j hj => by rw [eM, up2_k hj, up2_i (by decide), up2_i (by decide)]
  have f10 : M' 50 10 = ((tk + 1 : Nat) : Int) := by rw [eM, up2_s]
  have f57 : ∀ j, M' 57 j = if j = tk then k else M 57 j := fun j => by
    rw [eM, up2_i (by decide)]
    by_cases hj : j = tk
    · rw [if_pos hj, hj, up2_s]
    · rw [if_neg hj, up2_k hj, up2_i (by decide)]
  have f56 : ∀ j, M' 56 j = if j = tk then e else M 56 j := fun j => by
    rw [eM, up2_i (by decide), up2_i (by decide)]
    by_cases hj : j = tk
    · rw [if_pos hj, hj, up2_s]
    · rw [if_neg hj, up2_k hj]
  have f53 : M' 53 = M 53 := by rw [eM, up2_i (by decide), up2_i (by decide), up2_i (by decide)]
  have f54 : M' 54 = M 54 := by rw [eM, up2_i (by decide), up2_i (by decide), up2_i (by decide)]
  have f55 : M' 55 = M 55 := by rw [eM, up2_i (by decide), up2_i (by decide), up2_i (by decide)]
  rw [← eM]
  have hr : ∀ t, rmM n M' t = va_up (rmM n M) (n.1 + tk) k t := by
    intro t
    by_cases ht : t = n.1 + tk
    · subst ht
      rw [va_up_self]
      unfold rmM
      rw [if_neg (by omega), if_pos (by omega), f57, if_pos (by omega)]
    · rw [va_up_ne _ _ ht]
      unfold rmM
      rw [f53, f54, f10, f57, b7]
      by_cases h1 : t < n.1
      · rw [if_pos h1, if_pos h1]
      · rw [if_neg h1, if_neg h1, if_neg (show ¬ t - n.1 = tk by omega)]
        by_cases h2 : ((t - n.1 : Nat) : Int) < (tk : Int)
        · rw [if_pos h2, if_pos (by omega)]
        · rw [if_neg h2, if_neg (by omega)]
  have hp : ∀ t, plM n M' t = va_up (plM n M) (n.1 + tk) e t := by
    intro t
    by_cases ht : t = n.1 + tk
    · subst ht
      rw [va_up_self]
      unfold plM
      rw [if_neg (by omega), f56, if_pos (by omega)]
    · rw [va_up_ne _ _ ht]
      unfold plM
      rw [f55, f56]
      by_cases h1 : t < n.1
      · rw [if_pos h1, if_pos h1]
      · rw [if_neg h1, if_neg h1, if_neg (show ¬ t - n.1 = tk by omega)]
  have hE := mxE_nn pl rm (n.1 + 5)
  refine ⟨⟨b1, b2, b3, b4, by rw [f50 0 (by decide)]; exact b5, by rw [f50 1 (by decide)]; exact b6, f10, by omega, fun h hh => by rw [f53]; exact b9 h hh, fun t ht hl => ?_⟩, ?_, fun t ht => ?_⟩
  · rw [hr, hp]
    by_cases h1 : t = n.1 + tk
    · subst h1
      rw [va_up_self, va_up_self]
      omega
    · rw [va_up_ne _ _ h1, va_up_ne _ _ h1]
      rw [f53] at hl
      exact b10 t (by omega) hl
  · exact tk_dj hd (by omega) (h0.none (by omega) (by omega)) (by omega)
  · rw [hr, hp]
    by_cases h1 : t = n.1 + tk
    · subst h1
      rw [va_up_self, va_up_self, va_up_self, va_up_self]
      exact ⟨rfl, fun _ => rfl⟩
    · rw [va_up_ne _ _ h1, va_up_ne _ _ h1, va_up_ne _ _ h1, va_up_ne _ _ h1]
      exact ha t ht
