/-! ===== certificates: where nodes end, and which nodes are a node's factors ===== -/
/-- the place behind the node at p -/
def En (W : WS) (p : Nat) : Nat := (ndL W 12 p (-1) 1 0).1
theorem ks_ind {W : WS} {f : Nat → Int → Int → Nat → Nat × List ND} (hf : ∀ pos par t idx par' t' idx', (f pos par t idx).1 = (f pos par' t' idx').1) : ∀ (k e : Nat) (par : Int) (idx : Nat) (par' : Int) (idx' : Nat), (ksL W f par k e idx).1 = (ksL W f par' k e idx').1 := by
  intro k
  induction k with
  | zero => intro e par idx par' idx'; rfl
  | succ k ih =>
    intro e par idx par' idx'
    have e1 := hf (e + 1) par (W.2 e) idx par' (W.2 e) idx'
    have e2 : (ksL W f par k (f (e + 1) par (W.2 e) idx).1 (idx + (f (e + 1) par (W.2 e) idx).2.length)).1 = (ksL W f par' k (f (e + 1) par' (W.2 e) idx').1 (idx' + (f (e + 1) par' (W.2 e) idx').2.length)).1 := by
      rw [e1]
      exact ih _ _ _ _ _
    rw [ksL, ksL, e2]
    rw [e1]
    split <;> rfl
theorem nd_ind {W : WS} : ∀ (r pos : Nat) (par t : Int) (idx : Nat) (par' t' : Int) (idx' : Nat), (ndL W r pos par t idx).1 = (ndL W r pos par' t' idx').1 := by
  intro r
  induction r with
  | zero => intro pos par t idx par' t' idx'; rfl
  | succ r ih =>
    intro pos par t idx par' t' idx'
    have e := ks_ind (W := W) (f := ndL W r) (fun a b c d e f g => ih a b c d e f g) (o1 W pos).1 (o1 W pos).2.2 (idx : Int) (idx + 1) (idx' : Int) (idx' + 1)
    rw [ndL, ndL, e]
    split <;> rfl
theorem ks_up {W : WS} {f g : Nat → Int → Int → Nat → Nat × List ND} (hf : ∀ pos par t idx, (f pos par t idx).1 ≠ 0 → g pos par t idx = f pos par t idx) : ∀ (k e : Nat) (par : Int) (idx : Nat), (ksL W f par k e idx).1 ≠ 0 → ksL W g par k e idx = ksL W f par k e idx := by
  intro k
  induction k with
  | zero => intro e par idx _; rfl
  | succ k ih =>
    intro e par idx h
    by_cases c : e < W.1 ∧ 1 ≤ W.2 e ∧ W.2 e ≤ 960 ∧ (f (e + 1) par (W.2 e) idx).1 ≠ 0 ∧ (ksL W f par k (f (e + 1) par (W.2 e) idx).1 (idx + (f (e + 1) par (W.2 e) idx).2.length)).1 ≠ 0
    · have e1 := hf (e + 1) par (W.2 e) idx c.2.2.2.1
      have e2 := ih _ _ _ c.2.2.2.2
      rw [ksL, ksL, e1, e2]
    · rw [ksL, if_neg c] at h
      exact absurd rfl h
theorem nd_upr {W : WS} : ∀ (r pos : Nat) (par t : Int) (idx : Nat), (ndL W r pos par t idx).1 ≠ 0 → ndL W (r + 1) pos par t idx = ndL W r pos par t idx := by
  intro r
  induction r with
  | zero => intro pos par t idx h; exact absurd rfl h
  | succ r ih =>
    intro pos par t idx h
    by_cases c : (o1 W pos).2.2 ≠ 0 ∧ (ksL W (ndL W r) (idx : Int) (o1 W pos).1 (o1 W pos).2.2 (idx + 1)).1 ≠ 0
    · have e := ks_up (W := W) (f := ndL W r) (g := ndL W (r + 1)) (fun a b c d h => ih a b c d h) _ _ _ _ c.2
      rw [ndL, e, ndL]
    · rw [ndL, if_neg c] at h
      exact absurd rfl h
theorem nd_upk {W : WS} {r pos : Nat} {par t : Int} {idx : Nat} (h : (ndL W r pos par t idx).1 ≠ 0) : ∀ k, ndL W (r + k) pos par t idx = ndL W r pos par t idx := by
  intro k
  induction k with
  | zero => rfl
  | succ k ih => rw [← Nat.add_assoc, nd_upr _ _ _ _ _ (by rw [ih]; exact h), ih]
theorem nd_En {W : WS} {r pos : Nat} {par t : Int} {idx : Nat} (h : (ndL W r pos par t idx).1 ≠ 0) (hr : r ≤ 12) : En W pos = (ndL W r pos par t idx).1 := by
  have e := nd_upk h (12 - r)
  rw [show r + (12 - r) = 12 by omega] at e
  unfold En
  rw [← e]
  exact nd_ind 12 _ _ _ _ _ _ _
theorem ks_b {W : WS} {f : Nat → Int → Int → Nat → Nat × List ND} (hf : ∀ pos par t idx, (f pos par t idx).1 ≠ 0 → pos + 2 * (f pos par t idx).2.length ≤ (f pos par t idx).1 ∧ pos < (f pos par t idx).1 ∧ (f pos par t idx).1 ≤ W.1 ∧ ∀ d ∈ (f pos par t idx).2, pos ≤ d.1 ∧ d.1 < (f pos par t idx).1) : ∀ (k e : Nat) (par : Int) (idx : Nat), e ≤ W.1 → (ksL W f par k e idx).1 ≠ 0 → e + 2 * (ksL W f par k e idx).2.length ≤ (ksL W f par k e idx).1 ∧ (ksL W f par k e idx).1 ≤ W.1 ∧ ∀ d ∈ (ksL W f par k e idx).2, e < d.1 ∧ d.1 < (ksL W f par k e idx).1 := by
  intro k
  induction k with
  | zero => intro e par idx he _; exact ⟨Nat.le_refl _, he, fun d hd => absurd hd List.not_mem_nil⟩
  | succ k ih =>
    intro e par idx he h
    by_cases c : e < W.1 ∧ 1 ≤ W.2 e ∧ W.2 e ≤ 960 ∧ (f (e + 1) par (W.2 e) idx).1 ≠ 0 ∧ (ksL W f par k (f (e + 1) par (W.2 e) idx).1 (idx + (f (e + 1) par (W.2 e) idx).2.length)).1 ≠ 0
    · have e1 := hf (e + 1) par (W.2 e) idx c.2.2.2.1
      have e2 := ih _ par (idx + (f (e + 1) par (W.2 e) idx).2.length) e1.2.2.1 c.2.2.2.2
      rw [ksL, if_pos c]
      refine ⟨?_, e2.2.1, fun d hd => ?_⟩
      · show e + 2 * ((f (e + 1) par (W.2 e) idx).2 ++ _).length ≤ _
        rw [List.length_append]
        omega
      · show e < d.1 ∧ d.1 < (ksL W f par k (f (e + 1) par (W.2 e) idx).1 (idx + (f (e + 1) par (W.2 e) idx).2.length)).1
        rcases List.mem_append.mp hd with hd | hd
        · have := e1.2.2.2 d hd
          omega
        · have := e2.2.2 d hd
          omega
    · rw [ksL, if_neg c] at h
      exact absurd rfl h
theorem nd_b {W : WS} : ∀ (r pos : Nat) (par t : Int) (idx : Nat), (ndL W r pos par t idx).1 ≠ 0 → pos + 2 * (ndL W r pos par t idx).2.length ≤ (ndL W r pos par t idx).1 ∧ pos < (ndL W r pos par t idx).1 ∧ (ndL W r pos par t idx).1 ≤ W.1 ∧ ∀ d ∈ (ndL W r pos par t idx).2, pos ≤ d.1 ∧ d.1 < (ndL W r pos par t idx).1 := by
  intro r
  induction r with
  | zero => intro pos par t idx h; exact absurd rfl h
  | succ r ih =>
    intro pos par t idx h
    by_cases c : (o1 W pos).2.2 ≠ 0 ∧ (ksL W (ndL W r) (idx : Int) (o1 W pos).1 (o1 W pos).2.2 (idx + 1)).1 ≠ 0
    · have b := o1_b c.1
      have e := ks_b (W := W) (f := ndL W r) (fun a b c d h => ih a b c d h) _ _ (idx : Int) (idx + 1) b.2.2.1 c.2
      rw [ndL, if_pos c]
      refine ⟨?_, ?_, e.2.1, fun d hd => ?_⟩
      · show pos + 2 * (_ :: _ : List ND).length ≤ _
        rw [List.length_cons]
        omega
      · show pos < _
        omega
      · show pos ≤ d.1 ∧ d.1 < (ksL W (ndL W r) (idx : Int) (o1 W pos).1 (o1 W pos).2.2 (idx + 1)).1
        rcases List.mem_cons.mp hd with hd | hd
        · rw [hd]
          exact ⟨Nat.le_refl _, show pos < _ by omega⟩
        · have := e.2.2 d hd
          omega
    · rw [ndL, if_neg c] at h
      exact absurd rfl h
/-- parents -/
theorem ks_par {W : WS} {f : Nat → Int → Int → Nat → Nat × List ND} (hf : ∀ pos par t idx, ∀ c ∈ (f pos par t idx).2, c.2.1 = par ∨ ((idx : Int) ≤ c.2.1 ∧ c.2.1 < (idx : Int) + ((f pos par t idx).2.length : Int))) : ∀ (k e : Nat) (par : Int) (idx : Nat), ∀ c ∈ (ksL W f par k e idx).2, c.2.1 = par ∨ ((idx : Int) ≤ c.2.1 ∧ c.2.1 < (idx : Int) + ((ksL W f par k e idx).2.length : Int)) := by
  intro k
  induction k with
  | zero => intro e par idx c hc; exact absurd hc List.not_mem_nil
  | succ k ih =>
    intro e par idx c hc
    by_cases z : e < W.1 ∧ 1 ≤ W.2 e ∧ W.2 e ≤ 960 ∧ (f (e + 1) par (W.2 e) idx).1 ≠ 0 ∧ (ksL W f par k (f (e + 1) par (W.2 e) idx).1 (idx + (f (e + 1) par (W.2 e) idx).2.length)).1 ≠ 0
    · rw [ksL, if_pos z] at hc ⊢
      change c ∈ _ ++ _ at hc
      show _ ∨ (_ ∧ c.2.1 < (idx : Int) + ((_ ++ _ : List ND).length : Int))
      rw [List.length_append]
      rcases List.mem_append.mp hc with h | h
      · have := hf _ _ _ _ c h
        omega
      · have := ih _ _ _ c h
        omega
    · rw [ksL, if_neg z] at hc
      exact absurd hc List.not_mem_nil
theorem nd_par {W : WS} : ∀ (r pos : Nat) (par t : Int) (idx : Nat), (∀ c ∈ (ndL W r pos par t idx).2, c.2.1 = par ∨ ((idx : Int) ≤ c.2.1 ∧ c.2.1 < (idx : Int) + ((ndL W r pos par t idx).2.length : Int))) ∧ ∀ h l, (ndL W r pos par t idx).2 = h :: l → h.1 = pos ∧ h.2.1 = par ∧ h.2.2.1 = t ∧ ∀ c ∈ l, (idx : Int) ≤ c.2.1 := by
  intro r
  induction r with
  | zero => intro pos par t idx; exact ⟨fun c hc => absurd hc List.not_mem_nil, fun h l e => by cases e⟩
  | succ r ih =>
    intro pos par t idx
    by_cases z : (o1 W pos).2.2 ≠ 0 ∧ (ksL W (ndL W r) (idx : Int) (o1 W pos).1 (o1 W pos).2.2 (idx + 1)).1 ≠ 0
    · have k := ks_par (W := W) (f := ndL W r) (fun a b c d => (ih a b c d).1) (o1 W pos).1 (o1 W pos).2.2 (idx : Int) (idx + 1)
      rw [ndL, if_pos z]
      refine ⟨fun c hc => ?_, fun h l e => ?_⟩
      · show _ ∨ (_ ∧ c.2.1 < (idx : Int) + ((_ :: _ : List ND).length : Int))
        rw [List.length_cons]
        rcases List.mem_cons.mp hc with h | h
        · rw [h]
          exact Or.inl rfl
        · have := k c h
          omega
      · have e := List.cons.inj e
        rw [← e.1, ← e.2]
        refine ⟨rfl, rfl, rfl, fun c hc => ?_⟩
        have := k c hc
        omega
    · rw [ndL, if_neg z]
      exact ⟨fun c hc => absurd hc List.not_mem_nil, fun h l e => by cases e⟩
/-- the factors l stand one behind the other from e on -/
def Chn (W : WS) (l : List ND) (e : Nat) : Prop := match l with
  | [] => True
  | c :: l => c.1 = e + 1 ∧ c.2.2.1 = W.2 e ∧ e < W.1 ∧ Chn W l (En W (e + 1))
theorem nd_cons {W : WS} {r pos : Nat} {par t : Int} {idx : Nat} (h : (ndL W r pos par t idx).1 ≠ 0) : ∃ d l, (ndL W r pos par t idx).2 = d :: l := by
  cases r with
  | zero => exact absurd rfl h
  | succ r =>
    by_cases z : (o1 W pos).2.2 ≠ 0 ∧ (ksL W (ndL W r) (idx : Int) (o1 W pos).1 (o1 W pos).2.2 (idx + 1)).1 ≠ 0
    · rw [ndL, if_pos z]
      exact ⟨_, _, rfl⟩
    · rw [ndL, if_neg z] at h
      exact absurd rfl h
theorem ks_heads {W : WS} {r : Nat} (hr : r ≤ 12) : ∀ (k e : Nat) (par : Int) (idx : Nat), par < (idx : Int) → (ksL W (ndL W r) par k e idx).1 ≠ 0 → Chn W ((ksL W (ndL W r) par k e idx).2.filter (fun d => decide (d.2.1 = par))) e ∧ ((ksL W (ndL W r) par k e idx).2.filter (fun d => decide (d.2.1 = par))).length = k := by
  intro k
  induction k with
  | zero => intro e par idx _ _; exact ⟨trivial, rfl⟩
  | succ k ih =>
    intro e par idx hp h
    by_cases z : e < W.1 ∧ 1 ≤ W.2 e ∧ W.2 e ≤ 960 ∧ (ndL W r (e + 1) par (W.2 e) idx).1 ≠ 0 ∧ (ksL W (ndL W r) par k (ndL W r (e + 1) par (W.2 e) idx).1 (idx + (ndL W r (e + 1) par (W.2 e) idx).2.length)).1 ≠ 0
    · have en := nd_En z.2.2.2.1 hr
      obtain ⟨d, l, el⟩ := nd_cons z.2.2.2.1
      have hp2 := (nd_par r (e + 1) par (W.2 e) idx).2 d l el
      have i2 := ih (ndL W r (e + 1) par (W.2 e) idx).1 par (idx + (ndL W r (e + 1) par (W.2 e) idx).2.length) (by omega) z.2.2.2.2
      rw [ksL, if_pos z]
      show Chn W ((_ ++ _ : List ND).filter _) e ∧ ((_ ++ _ : List ND).filter _).length = k + 1
      rw [List.filter_append]
      have e1 : (ndL W r (e + 1) par (W.2 e) idx).2.filter (fun d => decide (d.2.1 = par)) = [d] := by
        rw [el, List.filter_cons, if_pos (by simpa using hp2.2.1)]
        congr 1
        rw [List.filter_eq_nil_iff]
        intro c hc
        have := hp2.2.2.2 c hc
        simp
        omega
      rw [e1]
      refine ⟨⟨hp2.1, hp2.2.2.1, z.1, ?_⟩, ?_⟩
      · show Chn W ([] ++ _) _
        rw [List.nil_append, en]
        exact i2.1
      · rw [List.length_append, i2.2]
        show 1 + k = k + 1
        omega
    · rw [ksL, if_neg z] at h
      exact absurd rfl h
def ChP (W : WS) (l : List ND) (idx : Nat) : Prop := ∀ j d, l[j]? = some d → Chn W ((l.drop (j + 1)).filter (fun c => decide (c.2.1 = ((idx + j : Nat) : Int)))) (o1 W d.1).2.2 ∧ ((l.drop (j + 1)).filter (fun c => decide (c.2.1 = ((idx + j : Nat) : Int)))).length = (o1 W d.1).1
theorem ks_ch {W : WS} {r : Nat} (hn : ∀ pos par t idx, (ndL W r pos par t idx).1 ≠ 0 → par < ((idx : Nat) : Int) → ChP W (ndL W r pos par t idx).2 idx) : ∀ (k e : Nat) (par : Int) (idx : Nat), par < (idx : Int) → (ksL W (ndL W r) par k e idx).1 ≠ 0 → ChP W (ksL W (ndL W r) par k e idx).2 idx := by
  intro k
  induction k with
  | zero => intro e par idx _ _ j d hd; simp [ksL] at hd
  | succ k ih =>
    intro e par idx hp h
    by_cases z : e < W.1 ∧ 1 ≤ W.2 e ∧ W.2 e ≤ 960 ∧ (ndL W r (e + 1) par (W.2 e) idx).1 ≠ 0 ∧ (ksL W (ndL W r) par k (ndL W r (e + 1) par (W.2 e) idx).1 (idx + (ndL W r (e + 1) par (W.2 e) idx).2.length)).1 ≠ 0
    · have n1 := hn (e + 1) par (W.2 e) idx z.2.2.2.1 hp
      have i2 := ih (ndL W r (e + 1) par (W.2 e) idx).1 par (idx + (ndL W r (e + 1) par (W.2 e) idx).2.length) (by omega) z.2.2.2.2
      have p2 := ks_par (W := W) (f := ndL W r) (fun a b c d => (nd_par r a b c d).1) k (ndL W r (e + 1) par (W.2 e) idx).1 par (idx + (ndL W r (e + 1) par (W.2 e) idx).2.length)
      rw [ksL, if_pos z]
      generalize (ndL W r (e + 1) par (W.2 e) idx).2 = A at *
      generalize (ksL W (ndL W r) par k (ndL W r (e + 1) par (W.2 e) idx).1 (idx + A.length)).2 = B at *
      intro j d hd
      change (A ++ B)[j]? = some d at hd
      show Chn W (((A ++ B).drop (j + 1)).filter _) _ ∧ (((A ++ B).drop (j + 1)).filter _).length = _
      by_cases c : j < A.length
      · rw [List.getElem?_append_left c] at hd
        have q := n1 j d hd
        have e1 : ((A ++ B).drop (j + 1)).filter (fun c => decide (c.2.1 = ((idx + j : Nat) : Int))) = (A.drop (j + 1)).filter (fun c => decide (c.2.1 = ((idx + j : Nat) : Int))) := by
          rw [List.drop_append_of_le_length (by omega), List.filter_append]
          have : B.filter (fun c => decide (c.2.1 = ((idx + j : Nat) : Int))) = [] := by
            rw [List.filter_eq_nil_iff]
            intro x hx
            have := p2 x hx
            simp
            omega
          rw [this, List.append_nil]
        rw [e1]
        exact q
      · rw [List.getElem?_append_right (by omega)] at hd
        have q := i2 (j - A.length) d hd
        rw [show idx + A.length + (j - A.length) = idx + j by omega] at q
        have e1 : (A ++ B).drop (j + 1) = B.drop (j - A.length + 1) := by
          rw [List.drop_append, List.drop_eq_nil_of_le (by omega), List.nil_append]
          congr 1
          omega
        rw [e1]
        exact q
    · rw [ksL, if_neg z] at h
      exact absurd rfl h
theorem nd_ch {W : WS} : ∀ (r : Nat), r ≤ 12 → ∀ (pos : Nat) (par t : Int) (idx : Nat), (ndL W r pos par t idx).1 ≠ 0 → par < (idx : Int) → ChP W (ndL W r pos par t idx).2 idx := by
  intro r
  induction r with
  | zero => intro _ pos par t idx h; exact absurd rfl h
  | succ r ih =>
    intro hr pos par t idx h hp
    by_cases z : (o1 W pos).2.2 ≠ 0 ∧ (ksL W (ndL W r) (idx : Int) (o1 W pos).1 (o1 W pos).2.2 (idx + 1)).1 ≠ 0
    · have k1 := ks_heads (W := W) (r := r) (by omega) (o1 W pos).1 (o1 W pos).2.2 (idx : Int) (idx + 1) (by omega) z.2
      have k2 := ks_ch (W := W) (r := r) (fun a b c d => ih (by omega) a b c d) (o1 W pos).1 (o1 W pos).2.2 (idx : Int) (idx + 1) (by omega) z.2
      rw [ndL, if_pos z]
      intro j d hd
      cases j with
      | zero =>
        have e : (pos, par, t, (o1 W pos).2.1) = d := by simpa using hd
        subst e
        exact k1
      | succ j =>
        have q := k2 j d (by simpa using hd)
        rw [show idx + 1 + j = idx + (j + 1) by omega] at q
        exact q
    · rw [ndL, if_neg z] at h
      exact absurd rfl h
theorem row_ch {W : WS} (h : (rowF W).1 ≠ 0) {k : Nat} {d : ND} (hd : (rowF W).2[k]? = some d) : Chn W (chs (rowF W).2 k) (o1 W d.1).2.2 ∧ (chs (rowF W).2 k).length = (o1 W d.1).1 := by
  have := nd_ch (W := W) 12 (Nat.le_refl _) 0 (-1) 1 0 h (by decide) k d hd
  rw [Nat.zero_add] at this
  exact this
