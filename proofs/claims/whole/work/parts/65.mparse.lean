/-! ===== certificates: how the words are read as nodes ===== -/
/-- a node: where it begins, its parent, how often its prime divides, where its witness stands -/
abbrev ND : Type := Nat × Int × Int × Int
/-- k factors from e on, read by f; the place behind them (0: they are none) and their nodes -/
def ksL (W : WS) (f : Nat → Int → Int → Nat → Nat × List ND) (par : Int) (k e idx : Nat) : Nat × List ND := match k with
  | 0 => (e, [])
  | k + 1 => if e < W.1 ∧ 1 ≤ W.2 e ∧ W.2 e ≤ 960 ∧ (f (e + 1) par (W.2 e) idx).1 ≠ 0 ∧ (ksL W f par k (f (e + 1) par (W.2 e) idx).1 (idx + (f (e + 1) par (W.2 e) idx).2.length)).1 ≠ 0
    then ((ksL W f par k (f (e + 1) par (W.2 e) idx).1 (idx + (f (e + 1) par (W.2 e) idx).2.length)).1, (f (e + 1) par (W.2 e) idx).2 ++ (ksL W f par k (f (e + 1) par (W.2 e) idx).1 (idx + (f (e + 1) par (W.2 e) idx).2.length)).2) else (0, [])
/-- the node at pos, with at most r nodes open from it on -/
def ndL (W : WS) (r : Nat) (pos : Nat) (par t : Int) (idx : Nat) : Nat × List ND := match r with
  | 0 => (0, [])
  | r + 1 => if (o1 W pos).2.2 ≠ 0 ∧ (ksL W (ndL W r) (idx : Int) (o1 W pos).1 (o1 W pos).2.2 (idx + 1)).1 ≠ 0
    then ((ksL W (ndL W r) (idx : Int) (o1 W pos).1 (o1 W pos).2.2 (idx + 1)).1, (pos, par, t, (o1 W pos).2.1) :: (ksL W (ndL W r) (idx : Int) (o1 W pos).1 (o1 W pos).2.2 (idx + 1)).2) else (0, [])
def rowF (W : WS) : Nat × List ND := ndL W 12 0 (-1) 1 0
/-- what is left to be read while the nodes st are open -/
def cnS (W : WS) (st : List (Nat × Nat)) (e : Nat) (L : List ND) : Nat × List ND := match st with
  | [] => (e, L)
  | (k, l) :: st => if (ksL W (ndL W (12 - (st.length + 1))) (k : Int) l e L.length).1 = 0 then (0, []) else cnS W st (ksL W (ndL W (12 - (st.length + 1))) (k : Int) l e L.length).1 (L ++ (ksL W (ndL W (12 - (st.length + 1))) (k : Int) l e L.length).2)
theorem cn_pop {W : WS} {k e : Nat} {st : List (Nat × Nat)} {L : List ND} (he : e ≠ 0) : cnS W ((k, 0) :: st) e L = cnS W st e L := by
  rw [cnS, ksL, if_neg he, List.append_nil]
theorem ks_no {W : WS} {f : Nat → Int → Int → Nat → Nat × List ND} {par : Int} {k e idx : Nat} (h : ¬ (e < W.1 ∧ 1 ≤ W.2 e ∧ W.2 e ≤ 960 ∧ (f (e + 1) par (W.2 e) idx).1 ≠ 0)) : ksL W f par (k + 1) e idx = (0, []) := by
  rw [ksL, if_neg (fun z => h ⟨z.1, z.2.1, z.2.2.1, z.2.2.2.1⟩)]
theorem cn_0 {W : WS} {k l e : Nat} {st : List (Nat × Nat)} {L : List ND} (h : ksL W (ndL W (12 - (st.length + 1))) (k : Int) l e L.length = (0, [])) : cnS W ((k, l) :: st) e L = (0, []) := by
  rw [cnS, h, if_pos rfl]
theorem cn_bad {W : WS} {k l e : Nat} {st : List (Nat × Nat)} {L : List ND} (h : ¬ (e < W.1 ∧ 1 ≤ W.2 e ∧ W.2 e ≤ 960)) : cnS W ((k, l + 1) :: st) e L = (0, []) := cn_0 (ks_no (fun z => h ⟨z.1, z.2.1, z.2.2.1⟩))
theorem cn_deep {W : WS} {k l e : Nat} {st : List (Nat × Nat)} {L : List ND} (h : st.length + 1 = 12) : cnS W ((k, l + 1) :: st) e L = (0, []) := cn_0 (ks_no (fun z => z.2.2.2 (by rw [h]; rfl)))
theorem cn_no {W : WS} {k l e : Nat} {st : List (Nat × Nat)} {L : List ND} (h : (o1 W (e + 1)).2.2 = 0) : cnS W ((k, l + 1) :: st) e L = (0, []) := by
  have h2 : ∀ r par t idx, (ndL W r (e + 1) par t idx).1 = 0 := by
    intro r par t idx
    cases r with
    | zero => rfl
    | succ r => rw [ndL, if_neg (fun z => z.1 h)]
  exact cn_0 (ks_no (fun z => z.2.2.2 (h2 _ _ _ _)))
theorem cn_push {W : WS} {k l e : Nat} {st : List (Nat × Nat)} {L : List ND} (h1 : e < W.1 ∧ 1 ≤ W.2 e ∧ W.2 e ≤ 960) (h2 : st.length + 1 < 12) (h3 : (o1 W (e + 1)).2.2 ≠ 0) : cnS W ((k, l + 1) :: st) e L = cnS W ((L.length, (o1 W (e + 1)).1) :: (k, l) :: st) (o1 W (e + 1)).2.2 (L ++ [(e + 1, (k : Int), W.2 e, (o1 W (e + 1)).2.1)]) := by
  obtain ⟨r, hr⟩ : ∃ r, 12 - (st.length + 1) = r + 1 := ⟨12 - (st.length + 1) - 1, by omega⟩
  have hr2 : 12 - (((k, l) :: st).length + 1) = r := by rw [List.length_cons]; omega
  obtain ⟨d, ed⟩ : ∃ d : ND, d = (e + 1, (k : Int), W.2 e, (o1 W (e + 1)).2.1) := ⟨_, rfl⟩
  rw [← ed]
  have len1 : (L ++ [d]).length = L.length + 1 := by rw [List.length_append]; rfl
  obtain ⟨s1, es1⟩ : ∃ s1, s1 = ksL W (ndL W r) (L.length : Int) (o1 W (e + 1)).1 (o1 W (e + 1)).2.2 (L.length + 1) := ⟨_, rfl⟩
  have ef : ndL W (r + 1) (e + 1) (k : Int) (W.2 e) L.length = if s1.1 ≠ 0 then (s1.1, d :: s1.2) else (0, []) := by
    rw [ndL, ← es1, ed]
    by_cases c : s1.1 ≠ 0
    · rw [if_pos ⟨h3, c⟩, if_pos c]
    · rw [if_neg (fun z => c z.2), if_neg c]
  have eR : cnS W ((L.length, (o1 W (e + 1)).1) :: (k, l) :: st) (o1 W (e + 1)).2.2 (L ++ [d]) = if s1.1 = 0 then (0, []) else cnS W ((k, l) :: st) s1.1 (L ++ [d] ++ s1.2) := by
    rw [cnS, hr2, len1, ← es1]
  rw [eR]
  by_cases c : s1.1 = 0
  · rw [if_neg (fun z => z c)] at ef
    rw [if_pos c]
    refine cn_0 (ks_no (fun z => z.2.2.2 ?_))
    rw [hr, ef]
  · rw [if_pos c] at ef
    rw [if_neg c]
    have len2 : (L ++ [d] ++ s1.2).length = L.length + (d :: s1.2).length := by
      rw [List.length_append, len1, List.length_cons]
      omega
    obtain ⟨s2, es2⟩ : ∃ s2, s2 = ksL W (ndL W (r + 1)) (k : Int) l s1.1 (L.length + (d :: s1.2).length) := ⟨_, rfl⟩
    have eA : ksL W (ndL W (r + 1)) (k : Int) (l + 1) e L.length = if s2.1 ≠ 0 then (s2.1, (d :: s1.2) ++ s2.2) else (0, []) := by
      rw [ksL, ef]
      dsimp only
      rw [← es2]
      by_cases c2 : s2.1 ≠ 0
      · rw [if_pos ⟨h1.1, h1.2.1, h1.2.2, c, c2⟩, if_pos c2]
      · rw [if_neg (fun z => c2 z.2.2.2.2), if_neg c2]
    have eL : cnS W ((k, l + 1) :: st) e L = if (ksL W (ndL W (r + 1)) (k : Int) (l + 1) e L.length).1 = 0 then (0, []) else cnS W st (ksL W (ndL W (r + 1)) (k : Int) (l + 1) e L.length).1 (L ++ (ksL W (ndL W (r + 1)) (k : Int) (l + 1) e L.length).2) := by
      rw [cnS, hr]
    have eM : cnS W ((k, l) :: st) s1.1 (L ++ [d] ++ s1.2) = if s2.1 = 0 then (0, []) else cnS W st s2.1 (L ++ [d] ++ s1.2 ++ s2.2) := by
      rw [cnS, hr, len2, ← es2]
    rw [eL, eM]
    by_cases c2 : s2.1 = 0
    · rw [if_neg (fun z => z c2)] at eA
      rw [eA, if_pos c2, if_pos rfl]
    · rw [if_pos c2] at eA
      rw [eA, if_neg c2, if_neg c2]
      congr 1
      simp
theorem row_no {W : WS} (h : (o1 W 0).2.2 = 0) : rowF W = (0, []) := by
  unfold rowF
  rw [ndL, if_neg (fun z => z.1 h)]
theorem row_1 {W : WS} (h : (o1 W 0).2.2 ≠ 0) : cnS W [(0, (o1 W 0).1)] (o1 W 0).2.2 [(0, -1, 1, (o1 W 0).2.1)] = rowF W := by
  unfold rowF
  rw [cnS, ndL]
  show (if (ksL W (ndL W 11) ((0 : Nat) : Int) (o1 W 0).1 (o1 W 0).2.2 1).1 = 0 then (0, []) else cnS W [] (ksL W (ndL W 11) ((0 : Nat) : Int) (o1 W 0).1 (o1 W 0).2.2 1).1 ([(0, -1, 1, (o1 W 0).2.1)] ++ (ksL W (ndL W 11) ((0 : Nat) : Int) (o1 W 0).1 (o1 W 0).2.2 1).2)) = (if (o1 W 0).2.2 ≠ 0 ∧ (ksL W (ndL W 11) ((0 : Nat) : Int) (o1 W 0).1 (o1 W 0).2.2 1).1 ≠ 0 then ((ksL W (ndL W 11) ((0 : Nat) : Int) (o1 W 0).1 (o1 W 0).2.2 1).1, (0, -1, 1, (o1 W 0).2.1) :: (ksL W (ndL W 11) ((0 : Nat) : Int) (o1 W 0).1 (o1 W 0).2.2 1).2) else (0, []))
  by_cases c : (ksL W (ndL W 11) ((0 : Nat) : Int) (o1 W 0).1 (o1 W 0).2.2 1).1 = 0
  · rw [if_pos c, if_neg (fun z => z.2 c)]
  · rw [if_neg c, if_pos ⟨h, c⟩, cnS]
    rfl
theorem o1_b {W : WS} {p : Nat} (h : (o1 W p).2.2 ≠ 0) : pE W p ≠ 0 ∧ p + 2 ≤ (o1 W p).2.2 ∧ (o1 W p).2.2 ≤ W.1 ∧ (o1 W p).1 ≤ 20 ∧ ((isT W p ∧ (o1 W p).2.1 = -1) ∨ (¬ isT W p ∧ (o1 W p).2.1 = (pE W p : Int) ∧ pE W (pE W p) ≠ 0)) := by
  have h0 := h
  unfold o1 at h
  by_cases c1 : pE W p = 0
  · rw [if_pos c1] at h
    exact absurd rfl h
  · rw [if_neg c1] at h
    have b1 := pE_b c1
    by_cases c2 : isT W p
    · have e : o1 W p = (0, -1, pE W p) := by
        unfold o1
        rw [if_neg c1, if_pos c2]
      rw [e]
      exact ⟨c1, b1.1, b1.2.1, Nat.zero_le _, Or.inl ⟨c2, rfl⟩⟩
    · rw [if_neg c2] at h
      by_cases c3 : pE W (pE W p) ≠ 0 ∧ pE W (pE W p) < W.1 ∧ 1 ≤ W.2 (pE W (pE W p)) ∧ W.2 (pE W (pE W p)) ≤ 20
      · have e : o1 W p = ((W.2 (pE W (pE W p))).toNat, (pE W p : Int), pE W (pE W p) + 1) := by
          unfold o1
          rw [if_neg c1, if_neg c2, if_pos c3]
        rw [e]
        have b2 := pE_b c3.1
        refine ⟨c1, ?_, ?_, ?_, Or.inr ⟨c2, rfl, c3.1⟩⟩
        · show p + 2 ≤ pE W (pE W p) + 1
          omega
        · show pE W (pE W p) + 1 ≤ W.1
          omega
        · show (W.2 (pE W (pE W p))).toNat ≤ 20
          omega
      · rw [if_neg c3] at h
        exact absurd rfl h
def hdI (st : List (Nat × Nat)) : Int := match st with
  | [] => -1
  | (k, _) :: _ => (k : Int)
/-- the nodes st are open, the innermost first -/
def StkO (M : Mem) (st : List (Nat × Nat)) (B : Nat) : Prop := match st with
  | [] => True
  | (k, l) :: st => k < B ∧ l ≤ 20 ∧ M 65 k = (l : Int) ∧ M 63 k = hdI st ∧ StkO M st k
theorem StkO.cg {M M' : Mem} : ∀ {st : List (Nat × Nat)} {B B' : Nat}, StkO M st B → B ≤ B' → (∀ j, j < B → M' 65 j = M 65 j ∧ M' 63 j = M 63 j) → StkO M' st B' := by
  intro st
  induction st with
  | nil => intro B B' _ _ _; exact trivial
  | cons a st ih =>
    intro B B' h hB hc
    obtain ⟨k, l⟩ := a
    obtain ⟨h1, h2, h3, h4, h5⟩ := h
    have c := hc k h1
    exact ⟨by omega, h2, c.1.trans h3, c.2.trans h4, ih h5 (Nat.le_refl _) (fun j hj => hc j (by omega))⟩
/-- the nodes are in the rows -/
def NdM (M : Mem) (L : List ND) : Prop := M 50 19 = (L.length : Int) ∧ ∀ j d, L[j]? = some d → M 61 j = (d.1 : Int) ∧ M 62 j = d.2.2.2 ∧ M 63 j = d.2.1 ∧ M 64 j = d.2.2.1 ∧ -1 ≤ d.2.1 ∧ d.2.1 ≤ 400
def FRw (M M' : Mem) : Prop := (∀ o, o < 50 ∨ 65 < o ∨ (50 < o ∧ o < 61) → M' o = M o) ∧ ∀ j, j ≠ 19 → j ≠ 20 → M' 50 j = M 50 j
theorem FRw.rf (M : Mem) : FRw M M := ⟨fun _ _ => rfl, fun _ _ _ => rfl⟩
theorem FRw.tr {M M1 M2 : Mem} (h : FRw M M1) (h2 : FRw M1 M2) : FRw M M2 := ⟨fun o a => (h2.1 o a).trans (h.1 o a), fun j a b => (h2.2 j a b).trans (h.2 j a b)⟩
theorem FOp.R {M M' : Mem} {K : Nat} (h : FOp M M' K) : FRw M M' := ⟨h.1, h.2.1⟩
theorem FRw.wb {M M' : Mem} {W : WS} (h : FRw M M') (hW : WB M W) : WB M' W := by
  obtain ⟨h1, h2, h3⟩ := hW
  exact ⟨by rw [h.2 18 (by decide) (by decide)]; exact h1, h2, fun i hi => by rw [h.1 60 (by omega)]; exact h3 i hi⟩
theorem FRw.a {M : Mem} {o k : Nat} {x : Int} (h1 : 61 ≤ o) (h2 : o ≤ 65) : FRw M (up2 M o k x) := ⟨fun p hp => up2_i (by omega), fun j _ _ => by rw [up2_i (by omega)]⟩
theorem FRw.c {M : Mem} {j : Nat} {x : Int} (h : j = 19 ∨ j = 20) : FRw M (up2 M 50 j x) := ⟨fun p hp => up2_i (by omega), fun i a b => up2_k (by omega)⟩
theorem NdM.add {M M' : Mem} {L : List ND} {d : ND} (h : NdM M L) (hF : FOp M M' L.length) (h19 : M' 50 19 = ((L.length + 1 : Nat) : Int)) (h1 : M' 61 L.length = (d.1 : Int)) (h2 : M' 62 L.length = d.2.2.2) (h3 : M' 63 L.length = d.2.1) (h4 : M' 64 L.length = d.2.2.1) (h5 : -1 ≤ d.2.1 ∧ d.2.1 ≤ 400) : NdM M' (L ++ [d]) := by
  refine ⟨by rw [h19, List.length_append]; rfl, fun j x hx => ?_⟩
  by_cases c : j < L.length
  · rw [List.getElem?_append_left c] at hx
    have := h.2 j x hx
    rw [hF.2.2 61 j (by decide) (by decide) (by omega), hF.2.2 62 j (by decide) (by decide) (by omega), hF.2.2 63 j (by decide) (by decide) (by omega), hF.2.2 64 j (by decide) (by decide) (by omega)]
    exact this
  · rw [List.getElem?_append_right (by omega)] at hx
    by_cases c2 : j = L.length
    · subst c2
      rw [Nat.sub_self] at hx
      have e : d = x := by simpa using hx
      subst e
      exact ⟨h1, h2, h3, h4, h5⟩
    · rw [List.getElem?_eq_none (by simp; omega)] at hx
      exact absurd hx (by simp)
def c_isRow : Call := ⟨WS × Nat, 1, (fun (W, _) vs M => vs = [.inr (.inr 50)] ∧ WB M W), .inr (fun (W, _) _ M x M' => FRw M M' ∧ ((x = 1 ∧ (rowF W).1 ≠ 0 ∧ (rowF W).1 = W.1 ∧ NdM M' (rowF W).2 ∧ 2 * (rowF W).2.length ≤ 400) ∨ (x = 0 ∧ ¬ ((rowF W).1 ≠ 0 ∧ (rowF W).1 = W.1))))⟩
theorem v_isRow (n0 : Nn) : Ver tX8_isRow (fdX8, icX8, lcX8, [(187, some 8, c_opens), (127, none, c_isIn)]) 2 5 n0 c_isRow := by
  rintro ⟨W, z0⟩ vs M0 ⟨rfl, hW⟩ aw run
  have l60 : lnF n0 60 = 400 := rfl
  have l63 : lnF n0 63 = 220 := rfl
  have l65 : lnF n0 65 = 220 := rfl
  have hW400 := hW.2.1
  have no : ∀ M, FRw M0 M → rowF W = (0, []) → FRw M0 M ∧ (((0 : Int) = 1 ∧ (rowF W).1 ≠ 0 ∧ (rowF W).1 = W.1 ∧ NdM M (rowF W).2 ∧ 2 * (rowF W).2.length ≤ 400) ∨ ((0 : Int) = 0 ∧ ¬ ((rowF W).1 ≠ 0 ∧ (rowF W).1 = W.1))) := by
    intro M hF hr
    exact ⟨hF, Or.inr ⟨rfl, fun z => z.1 (by rw [hr])⟩⟩
  have loop : ∀ (m e : Nat) (st : List (Nat × Nat)) (L : List ND) (M : Mem) (o3 o4 : Option AV), 2 * (W.1 - e) + st.length ≤ m → e ≤ W.1 → 2 ≤ e → 2 * L.length ≤ e → st.length ≤ 12 → M 50 20 = (e : Int) → NdM M L → StkO M st L.length → cnS W st e L = rowF W → FRw M0 M → aw 25 [some (.inr (.inr 50)), some (.inl (hdI st)), some (.inl (st.length : Int)), o3, o4] [] M := by
    intro m
    induction m with
    | zero =>
      intro e st L M o3 o4 hm he e2 hL h12 h20 hN hS hC hF
      have hs0 : st = [] := List.eq_nil_of_length_eq_zero (by omega)
      subst hs0
      have hW2 := hF.wb hW
      have h18 := hW2.1
      have hd : hdI [] = -1 := rfl
      refine run 60 [25] _ _ _ _ ?_
      refine And.intro ⟨⟨by omega, by omega⟩, ⟨by omega, by omega⟩⟩ (And.intro (fun _ => ?_) (fun c2 => absurd c2 (by omega)))
      refine And.intro rfl (And.intro rfl ?_)
      refine And.intro ⟨⟨by omega, by omega⟩, ⟨by omega, by omega⟩⟩ (And.intro (fun c1 => absurd c1 (by omega)) (fun _ => ?_))
      refine And.intro (Or.inr rfl) (Or.inl ⟨hF, Or.inl ⟨rfl, ?_⟩⟩)
      rw [← hC]
      exact ⟨by show e ≠ 0; omega, by show e = W.1; omega, hN, by show 2 * L.length ≤ 400; omega⟩
    | succ m ih =>
      intro e st L M o3 o4 hm he e2 hL h12 h20 hN hS hC hF
      have hW2 := hF.wb hW
      obtain ⟨h18, _, hWd⟩ := id hW2
      cases st with
      | nil =>
        have hd : hdI [] = -1 := rfl
        refine run 60 [25] _ _ _ _ ?_
        refine And.intro ⟨⟨by omega, by omega⟩, ⟨by omega, by omega⟩⟩ (And.intro (fun _ => ?_) (fun c2 => absurd c2 (by omega)))
        refine And.intro rfl (And.intro rfl ?_)
        by_cases c : e = W.1
        · refine And.intro ⟨⟨by omega, by omega⟩, ⟨by omega, by omega⟩⟩ (And.intro (fun c1 => absurd c1 (by omega)) (fun _ => ?_))
          refine And.intro (Or.inr rfl) (Or.inl ⟨hF, Or.inl ⟨rfl, ?_⟩⟩)
          rw [← hC]
          exact ⟨by show e ≠ 0; omega, c, hN, by show 2 * L.length ≤ 400; omega⟩
        · refine And.intro ⟨⟨by omega, by omega⟩, ⟨by omega, by omega⟩⟩ (And.intro (fun _ => ?_) (fun c2 => absurd c2 (by omega)))
          refine And.intro (Or.inl rfl) (Or.inl ⟨hF, Or.inr ⟨rfl, ?_⟩⟩)
          rw [← hC]
          exact fun z => c z.2
      | cons a st =>
        obtain ⟨k, l⟩ := a
        obtain ⟨s1, s2, s3, s4, s5⟩ := id hS
        rw [List.length_cons] at hm h12 ⊢
        show aw 25 [some (.inr (.inr 50)), some (.inl (k : Int)), some (.inl ((st.length + 1 : Nat) : Int)), o3, o4] [] M
        cases l with
        | zero =>
          rw [cn_pop (by omega)] at hC
          refine run 60 [25] _ _ _ _ ?_
          refine And.intro ⟨⟨by omega, by omega⟩, ⟨by omega, by omega⟩⟩ (And.intro (fun c1 => absurd c1 (by omega)) (fun _ => ?_))
          refine And.intro rfl (And.intro ⟨rfl, by omega, by omega⟩ ?_)
          conv => whnf
          rw [Int.toNat_natCast, s3]
          refine And.intro ⟨⟨by omega, by omega⟩, ⟨by omega, by omega⟩⟩ (And.intro (fun c1 => absurd c1 (by omega)) (fun _ => ?_))
          refine And.intro rfl (And.intro ⟨rfl, by omega, by omega⟩ ?_)
          refine And.intro ?_ trivial
          rw [Int.toNat_natCast, s4, show ((st.length + 1 : Nat) : Int) + -1 = (st.length : Int) by omega]
          exact ih e st L M o3 o4 (by omega) he e2 hL (by omega) h20 hN (s5.cg (by omega) (fun j hj => ⟨rfl, rfl⟩)) hC hF
        | succ l =>
          refine run 90 [25, 98] _ _ _ _ ?_
          refine And.intro ⟨⟨by omega, by omega⟩, ⟨by omega, by omega⟩⟩ (And.intro (fun c1 => absurd c1 (by omega)) (fun _ => ?_))
          refine And.intro rfl (And.intro ⟨rfl, by omega, by omega⟩ ?_)
          conv => whnf
          rw [Int.toNat_natCast, s3]
          refine And.intro ⟨⟨by omega, by omega⟩, ⟨by omega, by omega⟩⟩ (And.intro (fun _ => ?_) (fun c2 => absurd c2 (by omega)))
          refine And.intro rfl (And.intro ⟨rfl, by omega, by omega⟩ (And.intro ⟨rfl, by omega, by omega⟩ ?_))
          conv => whnf
          rw [Int.toNat_natCast, s3, show ((l + 1 : Nat) : Int) - 1 = (l : Int) by omega]
          have F2 : FRw M0 (up2 M 65 k (l : Int)) := hF.tr (FRw.a (by decide) (by decide))
          have g20 : up2 M 65 k (l : Int) 50 20 = (e : Int) := by rw [up2_i (by decide)]; exact h20
          have g19 : up2 M 65 k (l : Int) 50 19 = (L.length : Int) := by rw [up2_i (by decide)]; exact hN.1
          have N2 : NdM (up2 M 65 k (l : Int)) L := ⟨g19, fun j d hd => by rw [up2_i (by decide), up2_i (by decide), up2_i (by decide), up2_i (by decide)]; exact hN.2 j d hd⟩
          have S2 : StkO (up2 M 65 k (l : Int)) ((k, l) :: st) L.length := ⟨s1, by omega, up2_s, by rw [up2_i (by decide)]; exact s4, s5.cg (Nat.le_refl _) (fun j hj => ⟨by rw [up2_k (by omega)], by rw [up2_i (by decide)]⟩)⟩
          have W3 := F2.wb hW
          have d18 := W3.1
          generalize up2 M 65 k (l : Int) = M2 at *
          have bad : rowF W = (0, []) → aw 98 [some (.inr (.inr 50)), some (.inl (k : Int)), some (.inl ((st.length + 1 : Nat) : Int)), o3, o4] [] M2 := by
            intro hr
            refine run 20 [] _ _ _ _ ?_
            exact And.intro (Or.inl rfl) (Or.inl (no M2 F2 hr))
          refine And.intro rfl (And.intro rfl ?_)
          by_cases c1 : e < W.1
          rotate_left
          · refine And.intro ⟨⟨by omega, by omega⟩, ⟨by omega, by omega⟩⟩ (And.intro (fun _ => ?_) (fun c2 => absurd c2 (by omega)))
            refine And.intro (bad ?_) trivial
            rw [← hC]
            exact cn_bad (fun z => c1 z.1)
          refine And.intro ⟨⟨by omega, by omega⟩, ⟨by omega, by omega⟩⟩ (And.intro (fun c1 => absurd c1 (by omega)) (fun _ => ?_))
          have w1 := W3.2.2 e c1
          refine And.intro rfl (And.intro rfl (And.intro ⟨rfl, by omega, by omega⟩ ?_))
          conv => whnf
          rw [g20, Int.toNat_natCast, w1.1]
          refine ⟨(W.2 e, 1, 960), ⟨rfl, ⟨by omega, by omega⟩, ⟨by omega, by omega⟩, ⟨by omega, by omega⟩⟩, ?_⟩
          rintro x M2 ⟨rfl, rfl⟩
          by_cases c2 : 1 ≤ W.2 e ∧ W.2 e ≤ 960
          rotate_left
          · rw [if_neg c2]
            refine And.intro ⟨⟨by omega, by omega⟩, ⟨by omega, by omega⟩⟩ (And.intro (fun _ => ?_) (fun c2 => absurd c2 (by omega)))
            refine And.intro (bad ?_) trivial
            rw [← hC]
            exact cn_bad (fun z => c2 z.2)
          rw [if_pos c2]
          refine And.intro ⟨⟨by omega, by omega⟩, ⟨by omega, by omega⟩⟩ (And.intro (fun c1 => absurd c1 (by omega)) (fun _ => ?_))
          by_cases c3 : st.length + 1 = 12
          · refine And.intro ⟨⟨by omega, by omega⟩, ⟨by omega, by omega⟩⟩ (And.intro (fun c1 => absurd c1 (by omega)) (fun _ => ?_))
            refine And.intro (bad ?_) trivial
            rw [← hC]
            exact cn_deep c3
          refine And.intro ⟨⟨by omega, by omega⟩, ⟨by omega, by omega⟩⟩ (And.intro (fun _ => ?_) (fun c2 => absurd c2 (by omega)))
          refine And.intro rfl (And.intro rfl (And.intro ⟨rfl, by omega, by omega⟩ (And.intro rfl (And.intro rfl (And.intro rfl ?_)))))
          conv => whnf
          rw [g20, Int.toNat_natCast, w1.1]
          have F3 : FRw M0 (up2 M2 50 20 ((e : Int) + 1)) := F2.tr (FRw.c (Or.inr rfl))
          have j20 : up2 M2 50 20 ((e : Int) + 1) 50 20 = ((e + 1 : Nat) : Int) := by rw [up2_s]; rfl
          have j19 : up2 M2 50 20 ((e : Int) + 1) 50 19 = (L.length : Int) := by rw [up2_k (by decide)]; exact g19
          have N3 : NdM (up2 M2 50 20 ((e : Int) + 1)) L := ⟨j19, fun j d hd => by rw [up2_i (by decide), up2_i (by decide), up2_i (by decide), up2_i (by decide)]; exact N2.2 j d hd⟩
          have S3 : StkO (up2 M2 50 20 ((e : Int) + 1)) ((k, l) :: st) L.length := S2.cg (Nat.le_refl _) (fun j hj => ⟨by rw [up2_i (by decide)], by rw [up2_i (by decide)]⟩)
          have W4 := F3.wb hW
          rw [j19]
          generalize up2 M2 50 20 ((e : Int) + 1) = M3 at *
          refine And.intro rfl ⟨(W, L.length, e + 1, (k : Int), W.2 e), ⟨rfl, W4, j19, by omega, j20, by omega⟩, ?_⟩
          rintro x M4 ⟨hO, ⟨rfl, q1, q2, q3, q4, q5, q6, q7, q8⟩ | ⟨rfl, q1⟩⟩
          rotate_left
          · refine And.intro ⟨⟨by omega, by omega⟩, ⟨by omega, by omega⟩⟩ (And.intro (fun c1 => absurd c1 (by omega)) (fun _ => ?_))
            refine And.intro (Or.inl rfl) (Or.inl (no M4 (F3.tr hO.R) ?_))
            rw [← hC]
            exact cn_no q1
          refine And.intro ⟨⟨by omega, by omega⟩, ⟨by omega, by omega⟩⟩ (And.intro (fun _ => ?_) (fun c2 => absurd c2 (by omega)))
          refine And.intro ?_ trivial
          obtain ⟨b1, b2, b3, b4, b5⟩ := o1_b q1
          rw [show ((st.length + 1 : Nat) : Int) + 1 = ((((L.length, (o1 W (e + 1)).1) :: (k, l) :: st).length : Nat) : Int) by rw [List.length_cons, List.length_cons]; omega]
          refine ih (o1 W (e + 1)).2.2 ((L.length, (o1 W (e + 1)).1) :: (k, l) :: st) (L ++ [(e + 1, (k : Int), W.2 e, (o1 W (e + 1)).2.1)]) M4 _ _ ?_ b3 (by omega) ?_ ?_ q3 (N3.add hO q2 q4 q5 q6 q7 ⟨by show -1 ≤ (k : Int); omega, by show (k : Int) ≤ 400; omega⟩) ?_ ?_ (F3.tr hO.R)
          · rw [List.length_cons, List.length_cons]
            omega
          · rw [List.length_append]
            show 2 * (L.length + 1) ≤ _
            omega
          · rw [List.length_cons, List.length_cons]
            omega
          · rw [List.length_append]
            refine ⟨by show L.length < L.length + 1; omega, b4, q8, q6, ?_⟩
            exact S3.cg (Nat.le_refl _) (fun j hj => ⟨hO.2.2 65 j (by decide) (by decide) (by omega), hO.2.2 63 j (by decide) (by decide) (by omega)⟩)
          · rw [← hC]
            exact (cn_push ⟨c1, c2⟩ (by omega) q1).symm
  change aw 0 [some (.inr (.inr 50)), none, none, none, none] [] M0
  refine run 60 [25] _ _ _ _ ?_
  refine And.intro rfl (And.intro rfl ?_)
  have F1 : FRw M0 (up2 (up2 M0 50 19 0) 50 20 0) := (FRw.c (Or.inl rfl)).tr (FRw.c (Or.inr rfl))
  have g20 : up2 (up2 M0 50 19 0) 50 20 0 50 20 = ((0 : Nat) : Int) := by rw [up2_s]; rfl
  have g19 : up2 (up2 M0 50 19 0) 50 20 0 50 19 = ((0 : Nat) : Int) := by rw [up2_k (by decide), up2_s]; rfl
  generalize up2 (up2 M0 50 19 0) 50 20 0 = M1 at *
  refine And.intro rfl ⟨(W, 0, 0, -1, 1), ⟨rfl, F1.wb hW, g19, by omega, g20, by omega⟩, ?_⟩
  rintro x M2 ⟨hO, ⟨rfl, q1, q2, q3, q4, q5, q6, q7, q8⟩ | ⟨rfl, q1⟩⟩
  rotate_left
  · refine And.intro ⟨⟨by omega, by omega⟩, ⟨by omega, by omega⟩⟩ (And.intro (fun c1 => absurd c1 (by omega)) (fun _ => ?_))
    exact And.intro (Or.inl rfl) (Or.inl (no M2 (F1.tr hO.R) (row_no q1)))
  refine And.intro ⟨⟨by omega, by omega⟩, ⟨by omega, by omega⟩⟩ (And.intro (fun _ => ?_) (fun c2 => absurd c2 (by omega)))
  refine And.intro ?_ trivial
  obtain ⟨b1, b2, b3, b4, b5⟩ := o1_b q1
  have N1 : NdM M1 [] := ⟨g19, fun j d hd => absurd hd (by simp)⟩
  have N2 := N1.add (d := (0, -1, 1, (o1 W 0).2.1)) hO q2 q4 q5 q6 q7 ⟨by show (-1 : Int) ≤ -1; omega, by show (-1 : Int) ≤ 400; omega⟩
  exact loop _ (o1 W 0).2.2 [(0, (o1 W 0).1)] [(0, -1, 1, (o1 W 0).2.1)] M2 _ _ (Nat.le_refl _) b3 (by omega) (by show 2 * 1 ≤ _; omega) (by show 1 ≤ 12; decide) q3 N2 ⟨by show 0 < 1; decide, b4, q8, q6, trivial⟩ (row_1 q1) (F1.tr hO.R)
theorem imX8_isRow {l : Launch} {Z : ZT} (hZ : ZOk Z) : Impl l Z yX8_isRow cX8_isRow 5 (some .boolean) 4 c_isRow := mkImpl (rt := 2) (CL := [(187, some 8, c_opens), (127, none, c_isIn)]) hZ.1 hZ.2.1 (by decide +kernel) kX8_isRow fwX8 iwX8 lwX8 trivial (Nat.le_of_ble_eq_true rfl) (List.forall_mem_cons.mpr ⟨gX8_187 hZ (by decide), List.forall_mem_cons.mpr ⟨gX8_127 hZ (by decide), fun q h => absurd h List.not_mem_nil⟩⟩) ((v_isRow _))
theorem gX8_194 {l : Launch} {Z : ZT} (hZ : ZOk Z) {d : Nat} (hd : 5 ≤ d) : CallI l Z RX8 d (194, some 8, c_isRow) := fun p e s m args below meth c Q cc nL x0 X => callOk_V X (imX8_isRow hZ) (by decide) rfl mlX8_194 iw_yX8_isRow vw_yX8_isRow nw_RX8 cw_yX8_isRow ⟨by decide +kernel, by decide +kernel, by decide +kernel⟩ ⟨hd, by decide⟩
