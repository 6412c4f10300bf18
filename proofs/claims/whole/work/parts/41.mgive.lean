/-! ===== a run that was taken becomes a handle's ===== -/
theorem AgM.give {n : Nn} {M : Mem} {pl rm : Nat → Int} {tk d : Nat} {k : Int} (h : AgM n M pl rm (tk + 1)) (hd : d < n.1) (hl : M 53 d = 1) (hk : rm (n.1 + tk) = k) (hk1 : 1 ≤ k) :
    AgM n (up2 (up2 (up2 M 55 d (M 56 tk)) 54 d k) 50 10 0) (va_up pl d (pl (n.1 + tk))) (fun t => if t < n.1 then va_up rm d k t else 0) 0 := by
  have h0 := h
  obtain ⟨hR, hdj, ha⟩ := h
  obtain ⟨b1, b2, b3, b4, b5, b6, b7, b8, b9, b10⟩ := hR
  obtain ⟨M', eM⟩ : ∃ M' : Mem, M' = up2 (up2 (up2 M 55 d (M 56 tk)) 54 d k) 50 10 0 := ⟨_, rfl⟩
  have f50 : ∀ j, j ≠ 10 → M' 50 j = M 50 j := fun j hj => by rw [eM, up2_k hj, up2_i (by decide), up2_i (by decide)]
  have f10 : M' 50 10 = 0 := by rw [eM, up2_s]
  have f53 : M' 53 = M 53 := by rw [eM, up2_i (by decide), up2_i (by decide), up2_i (by decide)]
  have f54 : ∀ j, M' 54 j = if j = d then k else M 54 j := fun j => by
    rw [eM, up2_i (by decide)]
    by_cases hj : j = d
    · rw [if_pos hj, hj, up2_s]
    · rw [if_neg hj, up2_k hj, up2_i (by decide)]
  have f55 : ∀ j, M' 55 j = if j = d then M 56 tk else M 55 j := fun j => by
    rw [eM, up2_i (by decide), up2_i (by decide)]
    by_cases hj : j = d
    · rw [if_pos hj, hj, up2_s]
    · rw [if_neg hj, up2_k hj]
  rw [← eM]
  have e56 : M 56 tk = pl (n.1 + tk) := by
    have := (ha (n.1 + tk) (by omega)).2 (by omega)
    rw [← this]
    unfold plM
    rw [if_neg (by omega), show n.1 + tk - n.1 = tk by omega]
  have hr : ∀ t, rmM n M' t = if t < n.1 then va_up (rmM n M) d k t else 0 := by
    intro t
    by_cases h1 : t < n.1
    · rw [if_pos h1]
      by_cases h2 : t = d
      · subst h2
        rw [va_up_self]
        unfold rmM
        rw [if_pos h1, f53, if_pos hl, f54, if_pos rfl]
      · rw [va_up_ne _ _ h2]
        unfold rmM
        rw [if_pos h1, if_pos h1, f53, f54, if_neg h2]
    · rw [if_neg h1]
      unfold rmM
      rw [if_neg h1, f10, if_neg (by omega)]
  have hp : ∀ t, t < n.1 → plM n M' t = va_up (plM n M) d (pl (n.1 + tk)) t := by
    intro t h1
    by_cases h2 : t = d
    · subst h2
      rw [va_up_self]
      unfold plM
      rw [if_pos h1, f55, if_pos rfl, e56]
    · rw [va_up_ne _ _ h2]
      unfold plM
      rw [if_pos h1, if_pos h1, f55, if_neg h2]
  have hin := h0.in (t := n.1 + tk) (by omega) (by omega)
  rw [hk] at hin
  refine ⟨⟨b1, b2, b3, b4, by rw [f50 0 (by decide)]; exact b5, by rw [f50 1 (by decide)]; exact b6, f10, by omega, fun h hh => by rw [f53]; exact b9 h hh, fun t ht hlv => ?_⟩, ?_, fun t ht => ?_⟩
  · have h1 : t < n.1 := by omega
    rw [hr, hp t h1, if_pos h1]
    by_cases h2 : t = d
    · subst h2
      rw [va_up_self, va_up_self]
      omega
    · rw [va_up_ne _ _ h2, va_up_ne _ _ h2]
      rw [f53] at hlv
      exact b10 t (by omega) hlv
  · intro t u ht hu hne h1 h2
    dsimp only at *
    by_cases ht1 : t < n.1
    · by_cases hu1 : u < n.1
      · rw [if_pos ht1] at h1 ⊢
        rw [if_pos hu1] at h2 ⊢
        by_cases e1 : t = d
        · subst e1
          rw [va_up_self, va_up_self, va_up_ne _ _ (fun q => hne q.symm), va_up_ne _ _ (fun q => hne q.symm)] at *
          have := hdj (n.1 + tk) u (by omega) hu (by omega) (by omega) h2
          rw [hk] at this
          exact this
        · by_cases e2 : u = d
          · subst e2
            rw [va_up_self, va_up_self, va_up_ne _ _ e1, va_up_ne _ _ e1] at *
            have := hdj t (n.1 + tk) ht (by omega) (by omega) h1 (by omega)
            rw [hk] at this
            exact this
          · rw [va_up_ne _ _ e1, va_up_ne _ _ e2, va_up_ne _ _ e1, va_up_ne _ _ e2] at *
            exact hdj t u ht hu hne h1 h2
      · rw [if_neg hu1] at h2; omega
    · rw [if_neg ht1] at h1; omega
  · dsimp only
    rw [hr]
    by_cases h1 : t < n.1
    · rw [if_pos h1, if_pos h1, hp t h1]
      by_cases h2 : t = d
      · subst h2
        rw [va_up_self, va_up_self, va_up_self, va_up_self]
        exact ⟨rfl, fun _ => rfl⟩
      · rw [va_up_ne _ _ h2, va_up_ne _ _ h2, va_up_ne _ _ h2, va_up_ne _ _ h2]
        exact ha t ht
    · rw [if_neg h1, if_neg h1]
      exact ⟨rfl, fun q => by omega⟩
