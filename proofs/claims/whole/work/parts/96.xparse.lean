/-! ===== the class: nodes read ===== -/
/-- the words stay; starts before idx and ends before pos, too -/
def FCe (M M' : Mem) (idx pos : Nat) : Prop := (∀ o, o ≠ 43 → o ≠ 45 → o ≠ 46 → M' o = M o) ∧ (∀ j, j ≠ 4 → M' 43 j = M 43 j) ∧ (∀ j, j < idx → M' 45 j = M 45 j) ∧ ∀ j, j < pos → M' 46 j = M 46 j
theorem FCe.rf (M : Mem) (idx pos : Nat) : FCe M M idx pos := ⟨fun _ _ _ _ => rfl, fun _ _ => rfl, fun _ _ => rfl, fun _ _ => rfl⟩
theorem FCe.tr {M M1 M2 : Mem} {i p i2 p2 : Nat} (h : FCe M M1 i p) (h2 : FCe M1 M2 i2 p2) (hi : i ≤ i2) (hp : p ≤ p2) : FCe M M2 i p := ⟨fun o a b c => (h2.1 o a b c).trans (h.1 o a b c), fun j a => (h2.2.1 j a).trans (h.2.1 j a), fun j a => (h2.2.2.1 j (by omega)).trans (h.2.2.1 j a), fun j a => (h2.2.2.2 j (by omega)).trans (h.2.2.2 j a)⟩
theorem FCe.wk {M M' : Mem} {i p i2 p2 : Nat} (h : FCe M M' i p) (hi : i2 ≤ i) (hp : p2 ≤ p) : FCe M M' i2 p2 := ⟨h.1, h.2.1, fun j a => h.2.2.1 j (by omega), fun j a => h.2.2.2 j (by omega)⟩
theorem FCe.w {n : Nn} {M M' : Mem} {W : WS} {i p : Nat} (h : FCe M M' i p) (hW : XW n M W) : XW n M' W := hW.fr (h.2.1 1 (by decide)) (h.1 44 (by decide) (by decide) (by decide))
/-- the nodes l stand in starts from idx on, and their ends -/
def NdS (M : Mem) (W : WS) (l : List ND) (idx : Nat) : Prop := M 43 4 = ((idx + l.length : Nat) : Int) ∧ ∀ j d, l[j]? = some d → M 45 (idx + j) = (d.1 : Int) ∧ M 46 d.1 = (En W d.1 : Int)
def c_eon (n : Nn) (r : Nat) : Call := ⟨WS × Nat × Int × Int × Nat, 3, (fun (W, pos, _, _, idx) vs M => vs = [.inr (.inr 43), .inl (pos : Int), .inl (13 - (r : Int))] ∧ r ≤ 12 ∧ XW n M W ∧ M 43 4 = (idx : Int) ∧ 2 * idx ≤ pos ∧ pos ≤ 1000), .inr (fun (W, pos, par, t, idx) _ M x M' => FCe M M' idx pos ∧ ((x = -1 ∧ (ndL W r pos par t idx).1 = 0) ∨ (x = ((ndL W r pos par t idx).1 : Int) ∧ (ndL W r pos par t idx).1 ≠ 0 ∧ NdS M' W (ndL W r pos par t idx).2 idx)))⟩
abbrev okC (W : WS) (a : Int) : Prop := 0 ≤ a ∧ a < (W.1 : Int) ∧ 1 ≤ W.2 a.toNat ∧ W.2 a.toNat ≤ 20
def c_eof (n : Nn) (r : Nat) : Call := ⟨WS × Int × Int × Nat, 3, (fun (W, a, _, idx) vs M => vs = [.inr (.inr 43), .inl a, .inl (12 - (r : Int))] ∧ r ≤ 11 ∧ XW n M W ∧ M 43 4 = (idx : Int) ∧ -1 ≤ a ∧ a ≤ 1000 ∧ (0 ≤ a → 2 * (idx : Int) ≤ a + 1)), .inr (fun (W, a, par, idx) _ M x M' => FCe M M' idx (a.toNat + 1) ∧ ((x = -1 ∧ ¬ (okC W a ∧ (ksL W (ndL W r) par (W.2 a.toNat).toNat (a.toNat + 1) idx).1 ≠ 0) ∧ (¬ okC W a → M' = M)) ∨ (okC W a ∧ (ksL W (ndL W r) par (W.2 a.toNat).toNat (a.toNat + 1) idx).1 ≠ 0 ∧ x = ((ksL W (ndL W r) par (W.2 a.toNat).toNat (a.toNat + 1) idx).1 : Int) ∧ NdS M' W (ksL W (ndL W r) par (W.2 a.toNat).toNat (a.toNat + 1) idx).2 idx)))⟩
theorem v_eon0 (n : Nn) : Ver tX2_endOfNode (fdX2, icX2, lcX2, [(65, some 2, c_eoN n)]) 1 4 n (c_eon n 0) := by
  rintro ⟨W, pos, par, t, idx⟩ vs M0 ⟨rfl, hr, hW, h4, hi, hp⟩ aw run
  change aw 0 [some (.inr (.inr 43)), some (.inl (pos : Int)), some (.inl 13), none] [] M0
  refine run 60 [] _ _ _ _ ?_
  refine And.intro rfl ⟨(W, (pos : Int)), ⟨rfl, by omega, by omega, hW⟩, ?_⟩
  rintro x M0 ⟨-, rfl⟩
  refine And.intro ⟨⟨by omega, by omega⟩, ⟨by omega, by omega⟩⟩ (And.intro (fun _ => ?_) (fun c2 => absurd c2 (by omega)))
  exact Or.inl ⟨FCe.rf _ _ _, Or.inl ⟨rfl, rfl⟩⟩
theorem NdS.app {M M' : Mem} {W : WS} {l m : List ND} {idx pos : Nat} (h : NdS M W l idx) (hm : NdS M' W m (idx + l.length)) (hF : FCe M M' (idx + l.length) pos) (hl : ∀ d ∈ l, d.1 < pos) : NdS M' W (l ++ m) idx := by
  refine ⟨by rw [hm.1, List.length_append]; omega, fun j d hd => ?_⟩
  by_cases c : j < l.length
  · rw [List.getElem?_append_left c] at hd
    have q := h.2 j d hd
    rw [hF.2.2.1 _ (by omega), hF.2.2.2 _ (hl d (List.mem_of_getElem? hd))]
    exact q
  · rw [List.getElem?_append_right (by omega)] at hd
    have q := hm.2 _ d hd
    rw [show idx + l.length + (j - l.length) = idx + j by omega] at q
    exact q
theorem v_eof (n : Nn) (r : Nat) : Ver tX2_endOfFactors (fdX2, icX2, lcX2, [(76, some 2, c_wordAt n), (62, some 2, c_eon n r)]) 1 8 n (c_eof n r) := by
  rintro ⟨W, a, par, idx⟩ vs M0 ⟨rfl, hr, hW, h4, ha1, ha2, hi⟩ aw run
  have w1 := hW.2.1
  have w2 := hW.2.2.1
  change aw 0 [some (.inr (.inr 43)), some (.inl a), some (.inl (12 - (r : Int))), none, none, none, none, none] [] M0
  refine run 60 [17, 27] _ _ _ _ ?_
  refine And.intro rfl ⟨(W, a), ⟨rfl, ⟨by omega, by omega⟩, hW⟩, ?_⟩
  rintro x M0 ⟨rfl, rfl⟩
  have hb := wA_b hW a
  have bad : ∀ y : Int, ¬ okC W a → aw 17 [some (.inr (.inr 43)), some (.inl a), some (.inl (12 - (r : Int))), some (.inl y), none, none, none, none] [] M0 := by
    intro y hn
    refine run 60 [] _ _ _ _ ?_
    exact Or.inl ⟨FCe.rf _ _ _, Or.inl ⟨rfl, fun z => hn z.1, fun _ => rfl⟩⟩
  by_cases c0 : 0 ≤ a ∧ a < (W.1 : Int)
  rotate_left
  · rw [wA_o c0]
    refine And.intro ⟨⟨by omega, by omega⟩, ⟨by omega, by omega⟩⟩ (And.intro (fun _ => ?_) (fun c2 => absurd c2 (by omega)))
    exact And.intro (bad _ (fun z => c0 ⟨z.1, z.2.1⟩)) trivial
  have e1 : wA W a = W.2 a.toNat := if_pos c0
  rw [e1] at hb ⊢
  refine And.intro ⟨⟨by omega, by omega⟩, ⟨by omega, by omega⟩⟩ (And.intro (fun c1 => ?_) (fun c2 => ?_))
  · exact And.intro (bad _ (by omega)) trivial
  refine And.intro ⟨⟨by omega, by omega⟩, ⟨by omega, by omega⟩⟩ (And.intro (fun c1 => ?_) (fun c2 => ?_))
  rotate_left
  · exact And.intro (bad _ (by omega)) trivial
  have ok : okC W a := ⟨c0.1, c0.2, by omega, by omega⟩
  obtain ⟨a, rfl⟩ : ∃ k : Nat, a = (k : Int) := ⟨a.toNat, by omega⟩
  rw [Int.toNat_natCast] at e1 hb ⊢
  have ok3 : 1 ≤ W.2 a ∧ W.2 a ≤ 20 := by
    have h3 := ok.2.2
    rw [Int.toNat_natCast] at h3
    exact h3
  obtain ⟨cnt, ecnt⟩ : ∃ k : Nat, W.2 a = (k : Int) := ⟨(W.2 a).toNat, by omega⟩
  refine And.intro ?_ trivial
  rw [ecnt, show (a : Int) + 1 = ((a + 1 : Nat) : Int) by omega]
  have hcnt : (W.2 (a : Int).toNat).toNat = cnt := by rw [Int.toNat_natCast, ecnt, Int.toNat_natCast]
  have nob := fun pos par t idx h => nd_b (W := W) r pos par t idx h
  have fail : ∀ (M : Mem) (o5 o6 o7 : Option AV), FCe M0 M idx (a + 1) → (ksL W (ndL W r) par cnt (a + 1) idx).1 = 0 → aw 96 [some (.inr (.inr 43)), some (.inl (a : Int)), some (.inl (12 - (r : Int))), some (.inl (cnt : Int)), some (.inl (-1)), o5, o6, o7] [] M := by
    intro M o5 o6 o7 hF hz
    refine run 60 [] _ _ _ _ ?_
    refine Or.inl ⟨hF, Or.inl ⟨rfl, fun z => z.2 ?_, fun z => absurd ok z⟩⟩
    rw [hcnt]
    exact hz
  have loop : ∀ (m k e : Nat) (D : List ND) (M : Mem) (o6 o7 : Option AV), k + m = cnt → e ≤ W.1 → e ≠ 0 → a + 1 ≤ e → 2 * (idx + D.length) ≤ e → (∀ d ∈ D, d.1 < e) → FCe M0 M idx (a + 1) → NdS M W D idx → (ksL W (ndL W r) par cnt (a + 1) idx).1 = (ksL W (ndL W r) par m e (idx + D.length)).1 → ((ksL W (ndL W r) par m e (idx + D.length)).1 ≠ 0 → (ksL W (ndL W r) par cnt (a + 1) idx).2 = D ++ (ksL W (ndL W r) par m e (idx + D.length)).2) → aw 27 [some (.inr (.inr 43)), some (.inl (a : Int)), some (.inl (12 - (r : Int))), some (.inl (cnt : Int)), some (.inl (e : Int)), some (.inl (k : Int)), o6, o7] [] M := by
    intro m
    induction m with
    | zero =>
      intro k e D M o6 o7 hk he he0 hae h2 hD hF hS h5 h6
      have z1 : ksL W (ndL W r) par 0 e (idx + D.length) = (e, []) := rfl
      rw [z1] at h5 h6
      rw [List.append_nil] at h6
      have h6 := h6 he0
      refine run 60 [27] _ _ _ _ ?_
      refine And.intro ⟨⟨by omega, by omega⟩, ⟨by omega, by omega⟩⟩ (And.intro (fun _ => ?_) (fun c2 => absurd c2 (by omega)))
      refine Or.inl ⟨hF, Or.inr ⟨ok, ?_, ?_, ?_⟩⟩
      · rw [hcnt]
        show (ksL W (ndL W r) par cnt (a + 1) idx).1 ≠ 0
        rw [h5]
        exact he0
      · show (e : Int) = ((ksL W (ndL W r) par (W.2 (a : Int).toNat).toNat (a + 1) idx).1 : Int)
        rw [hcnt, h5]
      · show NdS M W (ksL W (ndL W r) par (W.2 (a : Int).toNat).toNat (a + 1) idx).2 idx
        rw [hcnt, h6]
        exact hS
    | succ m ih =>
      intro k e D M o6 o7 hk he he0 hae h2 hD hF hS h5 h6
      have hWM : XW n M W := hF.w hW
      have no : ∀ o6 o7 : Option AV, (ksL W (ndL W r) par (m + 1) e (idx + D.length)).1 = 0 → ∀ M', FCe M0 M' idx (a + 1) → aw 88 [some (.inr (.inr 43)), some (.inl (a : Int)), some (.inl (12 - (r : Int))), some (.inl (cnt : Int)), some (.inl (e : Int)), some (.inl (k : Int)), o6, o7] [.inl (-1)] M' := by
        intro o6 o7 hz M' hF'
        refine run 60 [96] _ _ _ _ ?_
        by_cases c : k + 1 < cnt
        · refine And.intro ⟨⟨by omega, by omega⟩, ⟨by omega, by omega⟩⟩ (And.intro (fun c1 => absurd c1 (by omega)) (fun _ => ?_))
          refine And.intro ⟨⟨by omega, by omega⟩, ⟨by omega, by omega⟩⟩ (And.intro (fun _ => ?_) (fun c2 => absurd c2 (by omega)))
          exact And.intro (fail M' _ _ _ hF' (h5.trans hz)) trivial
        · refine And.intro ⟨⟨by omega, by omega⟩, ⟨by omega, by omega⟩⟩ (And.intro (fun _ => ?_) (fun c2 => absurd c2 (by omega)))
          exact And.intro (fail M' _ _ _ hF' (h5.trans hz)) trivial
      refine run 60 [27, 88, 96] _ _ _ _ ?_
      refine And.intro ⟨⟨by omega, by omega⟩, ⟨by omega, by omega⟩⟩ (And.intro (fun c1 => absurd c1 (by omega)) (fun _ => ?_))
      refine And.intro ⟨⟨by omega, by omega⟩, ⟨by omega, by omega⟩⟩ (And.intro (fun c1 => absurd c1 (by omega)) (fun _ => ?_))
      refine And.intro rfl ⟨(W, (e : Int)), ⟨rfl, ⟨by omega, by omega⟩, hWM⟩, ?_⟩
      rintro x M ⟨rfl, rfl⟩
      have hb := wA_b hWM (e : Int)
      by_cases ce : e < W.1
      rotate_left
      · rw [wA_o (by omega)]
        refine And.intro ⟨⟨by omega, by omega⟩, ⟨by omega, by omega⟩⟩ (And.intro (fun _ => ?_) (fun c2 => absurd c2 (by omega)))
        refine And.intro ⟨⟨by omega, by omega⟩, ⟨by omega, by omega⟩⟩ (And.intro (fun _ => ?_) (fun c2 => absurd c2 (by omega)))
        refine And.intro (no _ _ ?_ M hF) trivial
        rw [ks_no (fun z => ce z.1)]
      rw [wA_n ce] at hb ⊢
      refine And.intro ⟨⟨by omega, by omega⟩, ⟨by omega, by omega⟩⟩ (And.intro (fun c1 => ?_) (fun c2 => ?_))
      · refine And.intro ⟨⟨by omega, by omega⟩, ⟨by omega, by omega⟩⟩ (And.intro (fun _ => ?_) (fun c2 => absurd c2 (by omega)))
        refine And.intro (no _ _ ?_ M hF) trivial
        rw [ks_no (fun z => by have := z.2.1; omega)]
      refine And.intro ⟨⟨by omega, by omega⟩, ⟨by omega, by omega⟩⟩ (And.intro (fun c1 => ?_) (fun c2 => ?_))
      · refine And.intro ⟨⟨by omega, by omega⟩, ⟨by omega, by omega⟩⟩ (And.intro (fun _ => ?_) (fun c2 => absurd c2 (by omega)))
        refine And.intro (no _ _ ?_ M hF) trivial
        rw [ks_no (fun z => by have := z.2.2.1; omega)]
      refine And.intro ⟨⟨by omega, by omega⟩, ⟨by omega, by omega⟩⟩ (And.intro (fun c1 => absurd c1 (by omega)) (fun _ => ?_))
      conv => whnf
      rw [show (e : Int) + 1 = ((e + 1 : Nat) : Int) by omega, show (12 : Int) - (r : Int) + 1 = 13 - (r : Int) by omega]
      have hS1 := hS.1
      refine And.intro rfl ⟨(W, e + 1, par, W.2 e, idx + D.length), ⟨rfl, by omega, hWM, hS1, by omega, by omega⟩, ?_⟩
      rintro x M1 ⟨hF1, hx⟩
      have hF2 : FCe M0 M1 idx (a + 1) := hF.tr hF1 (by omega) (by omega)
      refine And.intro ?_ trivial
      rcases hx with ⟨rfl, hz⟩ | ⟨rfl, hz, hS2⟩
      · refine no _ _ ?_ M1 hF2
        rw [ks_no (fun z => z.2.2.2 hz)]
      · have nb1 := nob (e + 1) par (W.2 e) (idx + D.length) hz
        have hks : ksL W (ndL W r) par (m + 1) e (idx + D.length) = if (ksL W (ndL W r) par m (ndL W r (e + 1) par (W.2 e) (idx + D.length)).1 (idx + D.length + (ndL W r (e + 1) par (W.2 e) (idx + D.length)).2.length)).1 ≠ 0 then ((ksL W (ndL W r) par m (ndL W r (e + 1) par (W.2 e) (idx + D.length)).1 (idx + D.length + (ndL W r (e + 1) par (W.2 e) (idx + D.length)).2.length)).1, (ndL W r (e + 1) par (W.2 e) (idx + D.length)).2 ++ (ksL W (ndL W r) par m (ndL W r (e + 1) par (W.2 e) (idx + D.length)).1 (idx + D.length + (ndL W r (e + 1) par (W.2 e) (idx + D.length)).2.length)).2) else (0, []) := by
          rw [ksL]
          by_cases c : (ksL W (ndL W r) par m (ndL W r (e + 1) par (W.2 e) (idx + D.length)).1 (idx + D.length + (ndL W r (e + 1) par (W.2 e) (idx + D.length)).2.length)).1 ≠ 0
          · rw [if_pos ⟨ce, by omega, by omega, hz, c⟩, if_pos c]
          · rw [if_neg (fun z => c z.2.2.2.2), if_neg c]
        have hdl : ∀ d ∈ (ndL W r (e + 1) par (W.2 e) (idx + D.length)).2, d.1 < (ndL W r (e + 1) par (W.2 e) (idx + D.length)).1 := by
          intro d hd
          exact (nb1.2.2.2 d hd).2
        have nd1 := nb1
        generalize hN : ndL W r (e + 1) par (W.2 e) (idx + D.length) = N at *
        rw [show (k : Int) = (k : Int) from rfl]
        refine run 60 [27] _ _ _ _ ?_
        refine And.intro ?_ trivial
        rw [show (k : Int) + 1 = ((k + 1 : Nat) : Int) by omega]
        have len2 : idx + (D ++ N.2).length = idx + D.length + N.2.length := by rw [List.length_append]; omega
        refine ih (k + 1) N.1 (D ++ N.2) M1 _ _ (by omega) nd1.2.2.1 hz (by omega) (by rw [len2]; omega) (fun d hd => ?_) hF2 (hS.app hS2 hF1 (fun d hd => by have := hD d hd; omega)) ?_ ?_
        · rcases List.mem_append.mp hd with hd | hd
          · have := hD d hd
            omega
          · exact hdl d hd
        · rw [h5, hks, len2]
          split
          · rfl
          · rename_i c
            exact (Decidable.not_not.mp c).symm
        · rw [len2]
          intro c
          rw [if_pos c] at hks
          rw [hks] at h6
          rw [h6 c, List.append_assoc]
  have h0 : NdS M0 W [] idx := ⟨h4, fun j d hd => by simp at hd⟩
  exact loop cnt 0 (a + 1) [] M0 _ _ (by omega) (by omega) (by omega) (Nat.le_refl _) (by have := hi (by omega); show 2 * (idx + 0) ≤ a + 1; omega) (fun d hd => absurd hd List.not_mem_nil) (FCe.rf _ _ _) h0 rfl (fun _ => rfl)
theorem v_eon (n : Nn) (r : Nat) : Ver tX2_endOfNode (fdX2, icX2, lcX2, [(65, some 2, c_eoN n), (69, some 2, c_isTw n), (73, some 2, c_eof n r)]) 1 4 n (c_eon n (r + 1)) := by
  rintro ⟨W, pos, par, t, idx⟩ vs M0 ⟨rfl, hr, hW, h4, hi, hp⟩ aw run
  have w1 := hW.2.1
  have w2 := hW.2.2.1
  have l45 : lnF n 45 = n.2.2 := rfl
  have l46 : lnF n 46 = n.2.2 := rfl
  change aw 0 [some (.inr (.inr 43)), some (.inl (pos : Int)), some (.inl (13 - ((r + 1 : Nat) : Int))), none] [] M0
  refine run 90 [78] _ _ _ _ ?_
  refine And.intro rfl ⟨(W, (pos : Int)), ⟨rfl, by omega, by omega, hW⟩, ?_⟩
  rintro x M0 ⟨hx, rfl⟩
  rw [Int.toNat_natCast] at hx
  rcases hx with ⟨rfl, hx⟩ | ⟨-, hx, rfl⟩
  · have hz : pE W pos = 0 := hx.resolve_left (by omega)
    have ho : o1 W pos = (0, 0, 0) := if_pos hz
    have hnd : ndL W (r + 1) pos par t idx = (0, []) := by rw [ndL, ho, if_neg (fun z => z.1 rfl)]
    refine And.intro ⟨⟨by omega, by omega⟩, ⟨by omega, by omega⟩⟩ (And.intro (fun c1 => absurd c1 (by omega)) (fun _ => ?_))
    refine And.intro ⟨⟨by omega, by omega⟩, ⟨by omega, by omega⟩⟩ (And.intro (fun _ => ?_) (fun c2 => absurd c2 (by omega)))
    refine Or.inl ⟨FCe.rf _ _ _, Or.inl ⟨rfl, ?_⟩⟩
    show (ndL W (r + 1) pos par t idx).1 = 0
    rw [hnd]
  have pb := pE_b hx
  refine And.intro ⟨⟨by omega, by omega⟩, ⟨by omega, by omega⟩⟩ (And.intro (fun c1 => absurd c1 (by omega)) (fun _ => ?_))
  refine And.intro ⟨⟨by omega, by omega⟩, ⟨by omega, by omega⟩⟩ (And.intro (fun c1 => absurd c1 (by omega)) (fun _ => ?_))
  refine And.intro rfl (And.intro rfl (And.intro rfl ?_))
  conv => whnf
  rw [h4]
  refine And.intro ⟨⟨by omega, by omega⟩, ⟨by omega, by omega⟩⟩ (And.intro (fun _ => ?_) (fun c2 => absurd c2 (by omega)))
  refine And.intro rfl (And.intro rfl (And.intro ⟨rfl, by omega, by omega⟩ (And.intro rfl (And.intro rfl (And.intro rfl ?_)))))
  conv => whnf
  rw [h4, Int.toNat_natCast, up2_i (show 43 ≠ 45 by decide), h4, show (idx : Int) + 1 = ((idx + 1 : Nat) : Int) by omega]
  obtain ⟨M1, eM1⟩ : ∃ M1, M1 = up2 (up2 M0 45 idx (pos : Int)) 43 4 ((idx + 1 : Nat) : Int) := ⟨_, rfl⟩
  rw [← eM1]
  have F1 : FCe M0 M1 idx pos := ⟨fun o a b c => by rw [eM1, up2_i a, up2_i b], fun j a => by rw [eM1, up2_k a, up2_i (by decide)], fun j a => by rw [eM1, up2_i (by decide), up2_k (by omega)], fun j a => by rw [eM1, up2_i (by decide), up2_i (by decide)]⟩
  have hW1 : XW n M1 W := F1.w hW
  have k4 : M1 43 4 = ((idx + 1 : Nat) : Int) := by rw [eM1, up2_s]
  have k45 : M1 45 idx = (pos : Int) := by rw [eM1, up2_i (by decide), up2_s]
  clear eM1
  have e13 : (13 : Int) - ((r + 1 : Nat) : Int) = 12 - (r : Int) := by omega
  rw [e13]
  have good : ∀ (e : Nat) (K : List ND) (M2 : Mem), ndL W (r + 1) pos par t idx = (e, (pos, par, t, (o1 W pos).2.1) :: K) → e ≠ 0 → FCe M1 M2 (idx + 1) (pos + 1) → NdS M2 W K (idx + 1) → (∀ d ∈ K, pos < d.1) → aw 78 [some (.inr (.inr 43)), some (.inl (pos : Int)), some (.inl (12 - (r : Int))), some (.inl (pE W pos : Int))] [.inl (e : Int), .inl (pos : Int), .inr (.inr 46)] M2 := by
    intro e K M2 hN he F2 hS hK
    have eEn : En W pos = e := by
      have := nd_En (W := W) (r := r + 1) (pos := pos) (par := par) (t := t) (idx := idx) (by rw [hN]; exact he) hr
      rw [hN] at this
      exact this
    refine run 60 [] _ _ _ _ ?_
    refine And.intro ⟨rfl, by omega, by omega⟩ (And.intro rfl (And.intro ⟨rfl, by omega, by omega⟩ (Or.inl ?_)))
    show FCe M0 (up2 M2 46 (pos : Int).toNat (e : Int)) idx pos ∧ ((up2 M2 46 (pos : Int).toNat (e : Int) 46 (pos : Int).toNat = -1 ∧ (ndL W (r + 1) pos par t idx).1 = 0) ∨ (up2 M2 46 (pos : Int).toNat (e : Int) 46 (pos : Int).toNat = ((ndL W (r + 1) pos par t idx).1 : Int) ∧ (ndL W (r + 1) pos par t idx).1 ≠ 0 ∧ NdS (up2 M2 46 (pos : Int).toNat (e : Int)) W (ndL W (r + 1) pos par t idx).2 idx))
    rw [Int.toNat_natCast, hN, up2_s]
    have F3 : FCe M2 (up2 M2 46 pos (e : Int)) (idx + 1) pos := ⟨fun o a b c => up2_i c, fun j a => by rw [up2_i (by decide)], fun j a => by rw [up2_i (by decide)], fun j a => up2_k (by omega)⟩
    refine ⟨F1.tr ((F2.wk (Nat.le_refl _) (by omega)).tr F3 (Nat.le_refl _) (Nat.le_refl _)) (by omega) (Nat.le_refl _), Or.inr ⟨rfl, he, ⟨?_, fun j d hd => ?_⟩⟩⟩
    · rw [up2_i (by decide), hS.1]
      show ((idx + 1 + K.length : Nat) : Int) = ((idx + (K.length + 1) : Nat) : Int)
      omega
    · cases j with
      | zero =>
        have e : (pos, par, t, (o1 W pos).2.1) = d := by simpa using hd
        subst e
        show up2 M2 46 pos _ 45 idx = (pos : Int) ∧ up2 M2 46 pos _ 46 pos = (En W pos : Int)
        rw [up2_i (by decide), up2_s, F2.2.2.1 idx (by omega), k45, eEn]
        exact ⟨rfl, rfl⟩
      | succ j =>
        have hd : K[j]? = some d := by simpa using hd
        have q := hS.2 j d hd
        have := hK d (List.mem_of_getElem? hd)
        rw [up2_i (by decide), up2_k (by omega), show idx + (j + 1) = idx + 1 + j by omega]
        exact q
  refine And.intro rfl ⟨(W, pos), ⟨rfl, by omega, hW1⟩, ?_⟩
  rintro x M1 ⟨⟨rfl, hT⟩ | ⟨rfl, hT⟩, rfl⟩
  · have ho : o1 W pos = (0, -1, pE W pos) := by unfold o1; rw [if_neg hx, if_pos hT]
    have hN : ndL W (r + 1) pos par t idx = (pE W pos, (pos, par, t, (o1 W pos).2.1) :: []) := by
      rw [ndL, ho]
      show (if pE W pos ≠ 0 ∧ pE W pos ≠ 0 then (pE W pos, (pos, par, t, (-1 : Int)) :: []) else (0, [])) = _
      rw [if_pos ⟨hx, hx⟩]
    refine And.intro ⟨⟨by omega, by omega⟩, ⟨by omega, by omega⟩⟩ (And.intro (fun c1 => absurd c1 (by omega)) (fun _ => ?_))
    refine And.intro ?_ trivial
    exact good (pE W pos) [] M1 hN hx (FCe.rf _ _ _) ⟨k4, fun j d hd => by simp at hd⟩ (fun d hd => absurd hd List.not_mem_nil)
  refine And.intro ⟨⟨by omega, by omega⟩, ⟨by omega, by omega⟩⟩ (And.intro (fun _ => ?_) (fun c2 => absurd c2 (by omega)))
  refine And.intro rfl ⟨(W, (pE W pos : Int)), ⟨rfl, by omega, by omega, hW1⟩, ?_⟩
  rintro x M1 ⟨hx2, rfl⟩
  rw [Int.toNat_natCast] at hx2
  have hxb : -1 ≤ x ∧ x ≤ 400 ∧ (0 ≤ x → (pos : Int) + 4 ≤ x) := by
    rcases hx2 with ⟨rfl, _⟩ | ⟨_, h, rfl⟩
    · omega
    · have := pE_b h
      omega
  refine And.intro rfl ⟨(W, x, (idx : Int), idx + 1), ⟨rfl, by omega, hW1, k4, by omega, by omega, fun h => by omega⟩, ?_⟩
  rintro y M2 ⟨F2, hy⟩
  refine And.intro ?_ trivial
  have bad : (ndL W (r + 1) pos par t idx).1 = 0 → FCe M1 M2 (idx + 1) pos → aw 78 [some (.inr (.inr 43)), some (.inl (pos : Int)), some (.inl (12 - (r : Int))), some (.inl (pE W pos : Int))] [.inl (-1), .inl (pos : Int), .inr (.inr 46)] M2 := by
    intro hN F2
    refine run 60 [] _ _ _ _ ?_
    refine And.intro ⟨rfl, by omega, by omega⟩ (And.intro rfl (And.intro ⟨rfl, by omega, by omega⟩ (Or.inl ?_)))
    refine ⟨F1.tr (F2.tr ⟨fun o a b c => up2_i c, fun j a => by rw [up2_i (by decide)], fun j a => by rw [up2_i (by decide)], fun j a => up2_k (by omega)⟩ (Nat.le_refl _) (Nat.le_refl _)) (by omega) (Nat.le_refl _), Or.inl ⟨?_, hN⟩⟩
    exact up2_s
  have F2' : 0 ≤ x → FCe M1 M2 (idx + 1) (pos + 1) := fun h => ⟨F2.1, F2.2.1, F2.2.2.1, fun j hj => F2.2.2.2 j (by omega)⟩
  rcases hx2 with ⟨rfl, hx3⟩ | ⟨hx0, hx3, rfl⟩
  · have hz : pE W (pE W pos) = 0 := hx3.resolve_left (by omega)
    have ho : o1 W pos = (0, 0, 0) := by unfold o1; rw [if_neg hx, if_neg hT, if_neg (fun z => z.1 hz)]
    have hN : (ndL W (r + 1) pos par t idx).1 = 0 := by rw [ndL, ho, if_neg (fun z => z.1 rfl)]
    rcases hy with ⟨rfl, -, hm⟩ | ⟨ok, -⟩
    · have := hm (fun z => by have := z.1; omega)
      subst this
      exact bad hN (FCe.rf _ _ _)
    · have := ok.1
      omega
  rw [Int.toNat_natCast] at hy
  have pb2 := pE_b hx3
  by_cases ok : okC W (pE W (pE W pos) : Int)
  · have ok2 := ok
    unfold okC at ok2
    rw [Int.toNat_natCast] at ok2
    have ho : o1 W pos = ((W.2 (pE W (pE W pos))).toNat, (pE W pos : Int), pE W (pE W pos) + 1) := by
      unfold o1
      rw [if_neg hx, if_neg hT, if_pos ⟨hx3, by omega, by omega, by omega⟩]
    have hNd : ndL W (r + 1) pos par t idx = if (ksL W (ndL W r) (idx : Int) (W.2 (pE W (pE W pos))).toNat (pE W (pE W pos) + 1) (idx + 1)).1 ≠ 0 then ((ksL W (ndL W r) (idx : Int) (W.2 (pE W (pE W pos))).toNat (pE W (pE W pos) + 1) (idx + 1)).1, (pos, par, t, (o1 W pos).2.1) :: (ksL W (ndL W r) (idx : Int) (W.2 (pE W (pE W pos))).toNat (pE W (pE W pos) + 1) (idx + 1)).2) else (0, []) := by
      rw [ndL, ho]
      by_cases c : (ksL W (ndL W r) (idx : Int) (W.2 (pE W (pE W pos))).toNat (pE W (pE W pos) + 1) (idx + 1)).1 ≠ 0
      · rw [if_pos ⟨Nat.succ_ne_zero _, c⟩, if_pos c]
      · rw [if_neg (fun z => c z.2), if_neg c]
    rcases hy with ⟨rfl, hy, -⟩ | ⟨-, hy, rfl, hS⟩
    · have c : ¬ (ksL W (ndL W r) (idx : Int) (W.2 (pE W (pE W pos))).toNat (pE W (pE W pos) + 1) (idx + 1)).1 ≠ 0 := fun z => hy ⟨ok, z⟩
      rw [if_neg c] at hNd
      have F3 := F2' (by omega)
      exact bad (by rw [hNd]) ⟨F3.1, F3.2.1, F3.2.2.1, fun j hj => F3.2.2.2 j (by omega)⟩
    · rw [if_pos hy] at hNd
      have kb := ks_b (W := W) (f := ndL W r) (fun a b c d h => nd_b r a b c d h) (W.2 (pE W (pE W pos))).toNat (pE W (pE W pos) + 1) (idx : Int) (idx + 1) (by omega) hy
      exact good _ _ M2 hNd hy (F2' (by omega)) hS (fun d hd => by have := kb.2.2 d hd; omega)
  · have ho : o1 W pos = (0, 0, 0) := by
      unfold o1
      rw [if_neg hx, if_neg hT, if_neg (fun z => ok ⟨by omega, by omega, by rw [Int.toNat_natCast]; exact z.2.2.1, by rw [Int.toNat_natCast]; exact z.2.2.2⟩)]
    have hN : (ndL W (r + 1) pos par t idx).1 = 0 := by rw [ndL, ho, if_neg (fun z => z.1 rfl)]
    rcases hy with ⟨rfl, -⟩ | ⟨ok', -⟩
    · have F3 := F2' (by omega)
      exact bad hN ⟨F3.1, F3.2.1, F3.2.2.1, fun j hj => F3.2.2.2 j (by omega)⟩
    · exact absurd ok' ok
theorem imX2_eon {l : Launch} {Z : ZT} (hZ : ZOk Z) : ∀ r : Nat, Impl l Z yX2_endOfNode cX2_endOfNode 4 (some .int) (3 + 2 * r) (c_eon (zN Z) r) := by
  intro r
  induction r with
  | zero => exact mkImpl (rt := 1) (CL := [(65, some 2, c_eoN (zN Z))]) hZ.1 hZ.2.1 (by decide +kernel) kX2_endOfNode fwX2 iwX2 lwX2 trivial (Nat.le_of_ble_eq_true rfl) (List.forall_mem_cons.mpr ⟨gX2_65 hZ (by decide), fun q h => absurd h List.not_mem_nil⟩) (v_eon0 (zN Z))
  | succ r ih =>
    have hf : Impl l Z yX2_endOfFactors cX2_endOfFactors 8 (some .int) (3 + 2 * r + 1) (c_eof (zN Z) r) := mkImpl (rt := 1) (CL := [(76, some 2, c_wordAt (zN Z)), (62, some 2, c_eon (zN Z) r)]) hZ.1 hZ.2.1 (by decide +kernel) kX2_endOfFactors fwX2 iwX2 lwX2 trivial (Nat.le_of_ble_eq_true rfl) (List.forall_mem_cons.mpr ⟨gX2_76 hZ (by omega), List.forall_mem_cons.mpr ⟨fun p e s m args below meth c Q cc nL x0 X => callOk_V X ih (by decide) rfl mlX2_62 iw_yX2_endOfNode vw_yX2_endOfNode nw_RX2 cw_yX2_endOfNode ⟨by decide +kernel, by decide +kernel, show (parseMethodDescriptor yX2_endOfNode.desc).map (fun d => d.parameters.length) = some 2 by decide +kernel⟩ ⟨by omega, by decide⟩, fun q h => absurd h List.not_mem_nil⟩⟩) (v_eof (zN Z) r)
    exact mkImpl (rt := 1) (CL := [(65, some 2, c_eoN (zN Z)), (69, some 2, c_isTw (zN Z)), (73, some 2, c_eof (zN Z) r)]) hZ.1 hZ.2.1 (by decide +kernel) kX2_endOfNode fwX2 iwX2 lwX2 trivial (Nat.le_of_ble_eq_true rfl) (List.forall_mem_cons.mpr ⟨gX2_65 hZ (by omega), List.forall_mem_cons.mpr ⟨gX2_69 hZ (by omega), List.forall_mem_cons.mpr ⟨fun p e s m args below meth c Q cc nL x0 X => callOk_V X hf (by decide) rfl mlX2_73 iw_yX2_endOfFactors vw_yX2_endOfFactors nw_RX2 cw_yX2_endOfFactors ⟨by decide +kernel, by decide +kernel, show (parseMethodDescriptor yX2_endOfFactors.desc).map (fun d => d.parameters.length) = some 2 by decide +kernel⟩ ⟨by omega, by decide⟩, fun q h => absurd h List.not_mem_nil⟩⟩⟩) (v_eon (zN Z) r)
theorem gX2_62 {l : Launch} {Z : ZT} (hZ : ZOk Z) {d : Nat} (hd : 28 ≤ d) : CallI l Z RX2 d (62, some 2, c_eon (zN Z) 12) := fun p e s m args below meth c Q cc nL x0 X => callOk_V X (imX2_eon hZ 12) (by decide) rfl mlX2_62 iw_yX2_endOfNode vw_yX2_endOfNode nw_RX2 cw_yX2_endOfNode ⟨by decide +kernel, by decide +kernel, show (parseMethodDescriptor yX2_endOfNode.desc).map (fun d => d.parameters.length) = some 2 by decide +kernel⟩ ⟨hd, by decide⟩

/-- of the certificate all but the words may have changed -/
def FCf (M M' : Mem) : Prop := (∀ o, o ≠ 43 → o ≠ 45 → o ≠ 46 → M' o = M o) ∧ ∀ j, j ≠ 4 → M' 43 j = M 43 j
theorem FCf.w {n : Nn} {M M' : Mem} {W : WS} (h : FCf M M') (hW : XW n M W) : XW n M' W := hW.fr (h.2 1 (by decide)) (h.1 44 (by decide) (by decide) (by decide))
def c_isON (n : Nn) : Call := ⟨WS × Nat, 1, (fun (W, _) vs M => vs = [.inr (.inr 43)] ∧ XW n M W), .inr (fun (W, _) _ M x M' => FCf M M' ∧ ((x = 1 ∧ rowO W ∧ NdS M' W (rowF W).2 0) ∨ (x = 0 ∧ ¬ rowO W)))⟩
theorem v_isON (n : Nn) : Ver tX2_isOneNode (fdX2, icX2, lcX2, [(62, some 2, c_eon n 12)]) 2 2 n (c_isON n) := by
  rintro ⟨W, z⟩ vs M0 ⟨rfl, hW⟩ aw run
  have w1 := hW.2.1
  have w2 := hW.2.2.1
  have F0 : FCf M0 (up2 M0 43 4 0) := ⟨fun o a _ _ => up2_i a, fun j a => up2_k a⟩
  have hW1 := F0.w hW
  have k4 : up2 M0 43 4 0 43 4 = ((0 : Nat) : Int) := up2_s
  change aw 0 [some (.inr (.inr 43)), none] [] M0
  refine run 60 [] _ _ _ _ ?_
  refine And.intro rfl (And.intro rfl ⟨(W, 0, -1, 1, 0), ⟨rfl, by omega, hW1, k4, by omega, by omega⟩, ?_⟩)
  rintro x M1 ⟨F1, hx⟩
  have FF : FCf M0 M1 := ⟨fun o a b c => (F1.1 o a b c).trans (F0.1 o a b c), fun j a => (F1.2.1 j a).trans (F0.2 j a)⟩
  have h1 : M1 43 1 = (W.1 : Int) := (FF.w hW).1
  rcases hx with ⟨rfl, hz⟩ | ⟨rfl, hz, hS⟩
  · refine And.intro ⟨⟨by omega, by omega⟩, ⟨by omega, by omega⟩⟩ (And.intro (fun _ => ?_) (fun c2 => absurd c2 (by omega)))
    exact And.intro (Or.inl rfl) (Or.inl ⟨FF, Or.inr ⟨rfl, fun q => q.1 hz⟩⟩)
  · have nb1 := nd_b (W := W) 12 0 (-1) 1 0 hz
    change (rowF W).1 ≠ 0 at hz
    change 0 + 2 * (rowF W).2.length ≤ (rowF W).1 ∧ 0 < (rowF W).1 ∧ (rowF W).1 ≤ W.1 ∧ _ at nb1
    change NdS M1 W (rowF W).2 0 at hS
    conv => whnf
    rw [show ndL W 12 0 (-1) 1 0 = rowF W from rfl]
    refine And.intro ⟨⟨by omega, by omega⟩, ⟨by omega, by omega⟩⟩ (And.intro (fun c1 => absurd c1 (by omega)) (fun _ => ?_))
    refine And.intro rfl ?_
    conv => whnf
    rw [h1]
    by_cases c : (rowF W).1 = W.1
    · refine And.intro ⟨⟨by omega, by omega⟩, ⟨by omega, by omega⟩⟩ (And.intro (fun c1 => absurd c1 (by omega)) (fun _ => ?_))
      exact And.intro (Or.inr rfl) (Or.inl ⟨FF, Or.inl ⟨rfl, ⟨hz, c⟩, hS⟩⟩)
    · refine And.intro ⟨⟨by omega, by omega⟩, ⟨by omega, by omega⟩⟩ (And.intro (fun _ => ?_) (fun c2 => absurd c2 (by omega)))
      exact And.intro (Or.inl rfl) (Or.inl ⟨FF, Or.inr ⟨rfl, fun q => c q.2⟩⟩)
theorem imX2_isOneNode {l : Launch} {Z : ZT} (hZ : ZOk Z) : Impl l Z yX2_isOneNode cX2_isOneNode 2 (some .boolean) 28 (c_isON (zN Z)) := mkImpl (rt := 2) (CL := [(62, some 2, (c_eon (zN Z) 12))]) hZ.1 hZ.2.1 (by decide +kernel) kX2_isOneNode fwX2 iwX2 lwX2 trivial (Nat.le_of_ble_eq_true rfl) (List.forall_mem_cons.mpr ⟨gX2_62 hZ (by decide), fun q h => absurd h List.not_mem_nil⟩) ((v_isON (zN Z)))
theorem gX7_267 {l : Launch} {Z : ZT} (hZ : ZOk Z) {d : Nat} (hd : 29 ≤ d) : CallI l Z RX7 d (267, some 2, (c_isON (zN Z))) := fun p e s m args below meth c Q cc nL x0 X => callOk_V X (imX2_isOneNode hZ) (by decide) rfl mlX7_267 iw_yX2_isOneNode vw_yX2_isOneNode nw_RX2 cw_yX2_isOneNode ⟨by decide +kernel, by decide +kernel, show (parseMethodDescriptor yX2_isOneNode.desc).map (fun d => d.parameters.length) = some 0 by decide +kernel⟩ ⟨hd, by decide⟩
