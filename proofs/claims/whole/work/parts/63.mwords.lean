/-! ===== the reference: the words; a number, a node among them ===== -/
abbrev WS : Type := Nat × (Nat → Int)
def WB (M : Mem) (W : WS) : Prop := M 50 18 = (W.1 : Int) ∧ W.1 ≤ 400 ∧ ∀ i, i < W.1 → M 60 i = W.2 i ∧ 0 ≤ W.2 i ∧ W.2 i ≤ 32767
def RW (n : Nn) (M : Mem) (W : WS) : Prop := WB M W ∧ M 50 2 = (n.2.2 : Int) ∧ W.1 ≤ n.2.2 ∧ n.2.2 ≤ 400
def FWd (M M' : Mem) : Prop := (∀ o, o ≠ 50 → o ≠ 60 → M' o = M o) ∧ ∀ j, j ≠ 18 → M' 50 j = M 50 j
def wdF (n : Nn) (W : WS) (w : Int) : Int × WS := if 0 ≤ w ∧ w ≤ 32767 then (if W.1 = n.2.2 then (-9, W) else (((W.1 + 1 : Nat) : Int), (W.1 + 1, va_up W.2 W.1 w))) else (-3, W)
def c_word : Call := ⟨Nn × WS × Int, 2, (fun (n, W, w) vs M => vs = [.inr (.inr 50), .inl w] ∧ inR w ∧ RW n M W), .inr (fun (n, W, w) _ M x M' => x = (wdF n W w).1 ∧ RW n M' (wdF n W w).2 ∧ FWd M M')⟩
theorem v_word (n0 : Nn) : Ver tX8_word (fdX8, icX8, lcX8, [(127, none, c_isIn)]) 1 2 n0 c_word := by
  rintro ⟨n, W, w⟩ vs M0 ⟨rfl, iw, hW⟩ aw run
  obtain ⟨⟨h1, h2, h3⟩, h4, h5, h6⟩ := id hW
  have l60 : lnF n0 60 = 400 := rfl
  change aw 0 [some (.inr (.inr 50)), some (.inl w)] [] M0
  refine run 60 [] _ _ _ _ ?_
  refine ⟨(w, 0, 32767), ⟨rfl, iw, ⟨by omega, by omega⟩, ⟨by omega, by omega⟩⟩, ?_⟩
  rintro x M0 ⟨rfl, rfl⟩
  by_cases hin : 0 ≤ w ∧ w ≤ 32767
  rotate_left
  · rw [if_neg hin]
    have e : wdF n W w = (-3, W) := if_neg hin
    refine And.intro ⟨⟨by omega, by omega⟩, ⟨by omega, by omega⟩⟩ (And.intro (fun c1 => absurd c1 (by omega)) (fun _ => ?_))
    refine Or.inl ?_
    show -3 = (wdF n W w).1 ∧ RW n M0 (wdF n W w).2 ∧ FWd M0 M0
    rw [e]
    exact ⟨rfl, hW, ⟨fun _ _ _ => rfl, fun _ _ => rfl⟩⟩
  rw [if_pos hin]
  refine And.intro ⟨⟨by omega, by omega⟩, ⟨by omega, by omega⟩⟩ (And.intro (fun _ => ?_) (fun c2 => absurd c2 (by omega)))
  have e := show wdF n W w = _ from if_pos hin
  refine And.intro rfl (And.intro rfl ?_)
  by_cases hf : W.1 = n.2.2
  · rw [if_pos hf] at e
    refine And.intro ⟨⟨by omega, by omega⟩, ⟨by omega, by omega⟩⟩ (And.intro (fun c1 => absurd c1 (by omega)) (fun _ => ?_))
    refine Or.inl ?_
    show -9 = (wdF n W w).1 ∧ RW n M0 (wdF n W w).2 ∧ FWd M0 M0
    rw [e]
    exact ⟨rfl, hW, ⟨fun _ _ _ => rfl, fun _ _ => rfl⟩⟩
  rw [if_neg hf] at e
  refine And.intro ⟨⟨by omega, by omega⟩, ⟨by omega, by omega⟩⟩ (And.intro (fun _ => ?_) (fun c2 => absurd c2 (by omega)))
  refine And.intro rfl (And.intro rfl ?_)
  conv => whnf
  rw [h1, Int.toNat_natCast]
  refine And.intro ⟨rfl, by omega, by omega⟩ (And.intro rfl (And.intro rfl (And.intro rfl ?_)))
  have f18 : up2 M0 60 W.1 w 50 18 = (W.1 : Int) := by rw [up2_i (by decide)]; exact h1
  refine Or.inl ?_
  show up2 (up2 M0 60 W.1 w) 50 18 (up2 M0 60 W.1 w 50 18 + 1) 50 18 = (wdF n W w).1 ∧ RW n (up2 (up2 M0 60 W.1 w) 50 18 (up2 M0 60 W.1 w 50 18 + 1)) (wdF n W w).2 ∧ FWd M0 (up2 (up2 M0 60 W.1 w) 50 18 (up2 M0 60 W.1 w 50 18 + 1))
  rw [e, f18]
  refine ⟨up2_s, ⟨⟨up2_s, by show W.1 + 1 ≤ 400; omega, fun i hi => ?_⟩, ?_, by show W.1 + 1 ≤ n.2.2; omega, h6⟩, ⟨fun o x1 x2 => by rw [up2_i x1, up2_i x2], fun j x1 => by rw [up2_k x1, up2_i (by decide)]⟩⟩
  · change i < W.1 + 1 at hi
    show up2 (up2 M0 60 W.1 w) 50 18 _ 60 i = va_up W.2 W.1 w i ∧ 0 ≤ va_up W.2 W.1 w i ∧ va_up W.2 W.1 w i ≤ 32767
    rw [up2_i (by decide)]
    by_cases c : i = W.1
    · rw [c, up2_s, va_up_self]
      exact ⟨rfl, by omega, by omega⟩
    · rw [up2_k c, va_up_ne _ _ c]
      exact h3 i (by omega)
  · rw [up2_k (by decide), up2_i (by decide)]
    exact h4
theorem imX8_word {l : Launch} {Z : ZT} (hZ : ZOk Z) : Impl l Z yX8_word cX8_word 2 (some .int) 2 c_word := mkImpl (rt := 1) (CL := [(127, none, c_isIn)]) hZ.1 hZ.2.1 (by decide +kernel) kX8_word fwX8 iwX8 lwX8 trivial (Nat.le_of_ble_eq_true rfl) (List.forall_mem_cons.mpr ⟨gX8_127 hZ (by decide), fun q h => absurd h List.not_mem_nil⟩) ((v_word _))
/-- the place behind the number that begins at p; 0: there is none -/
def pE (W : WS) (p : Nat) : Nat := if p < W.1 ∧ 1 ≤ W.2 p ∧ W.2 p ≤ 64 ∧ p + (W.2 p).toNat < W.1 ∧ W.2 (p + (W.2 p).toNat) ≠ 0 then p + (W.2 p).toNat + 1 else 0
def c_passes : Call := ⟨WS × Nat, 1, (fun (W, p) vs M => vs = [.inr (.inr 50)] ∧ WB M W ∧ M 50 20 = (p : Int) ∧ p ≤ 1000), .inr (fun (W, p) _ M x M' => (x = 1 ∧ pE W p ≠ 0 ∧ M' = up2 M 50 20 (pE W p : Int)) ∨ (x = 0 ∧ pE W p = 0 ∧ M' = M))⟩
theorem v_passes (n0 : Nn) : Ver tX8_passes (fdX8, icX8, lcX8, [(127, none, c_isIn)]) 2 1 n0 c_passes := by
  rintro ⟨W, p⟩ vs M0 ⟨rfl, ⟨h1, h2, h3⟩, h4, h5⟩ aw run
  have l60 : lnF n0 60 = 400 := rfl
  have bad : pE W p = 0 → aw 72 [some (.inr (.inr 50))] [] M0 := by
    intro hb
    refine run 20 [] _ _ _ _ ?_
    exact And.intro (Or.inl rfl) (Or.inl (Or.inr ⟨rfl, hb, rfl⟩))
  change aw 0 [some (.inr (.inr 50))] [] M0
  refine run 90 [72] _ _ _ _ ?_
  refine And.intro rfl (And.intro rfl ?_)
  by_cases c1 : p < W.1
  rotate_left
  · refine And.intro ⟨⟨by omega, by omega⟩, ⟨by omega, by omega⟩⟩ (And.intro (fun _ => ?_) (fun c2 => absurd c2 (by omega)))
    exact And.intro (bad (if_neg (fun z => c1 z.1))) trivial
  refine And.intro ⟨⟨by omega, by omega⟩, ⟨by omega, by omega⟩⟩ (And.intro (fun c1 => absurd c1 (by omega)) (fun _ => ?_))
  have w1 := h3 p c1
  refine And.intro rfl (And.intro rfl (And.intro ⟨rfl, by omega, by omega⟩ ?_))
  conv => whnf
  rw [h4, Int.toNat_natCast, w1.1]
  refine ⟨(W.2 p, 1, 64), ⟨rfl, ⟨by omega, by omega⟩, ⟨by omega, by omega⟩, ⟨by omega, by omega⟩⟩, ?_⟩
  rintro x M0 ⟨rfl, rfl⟩
  by_cases c2 : 1 ≤ W.2 p ∧ W.2 p ≤ 64
  rotate_left
  · rw [if_neg c2]
    refine And.intro ⟨⟨by omega, by omega⟩, ⟨by omega, by omega⟩⟩ (And.intro (fun _ => ?_) (fun c2 => absurd c2 (by omega)))
    exact And.intro (bad (if_neg (fun z => c2 ⟨z.2.1, z.2.2.1⟩))) trivial
  rw [if_pos c2]
  refine And.intro ⟨⟨by omega, by omega⟩, ⟨by omega, by omega⟩⟩ (And.intro (fun c1 => absurd c1 (by omega)) (fun _ => ?_))
  refine And.intro rfl (And.intro rfl (And.intro rfl (And.intro ⟨rfl, by omega, by omega⟩ (And.intro rfl ?_))))
  conv => whnf
  rw [h4, Int.toNat_natCast, w1.1]
  by_cases c3 : p + (W.2 p).toNat < W.1
  rotate_left
  · refine And.intro ⟨⟨by omega, by omega⟩, ⟨by omega, by omega⟩⟩ (And.intro (fun _ => ?_) (fun c2 => absurd c2 (by omega)))
    exact And.intro (bad (if_neg (fun z => c3 z.2.2.2.1))) trivial
  refine And.intro ⟨⟨by omega, by omega⟩, ⟨by omega, by omega⟩⟩ (And.intro (fun c1 => absurd c1 (by omega)) (fun _ => ?_))
  have w2 := h3 _ c3
  refine And.intro rfl (And.intro rfl (And.intro rfl (And.intro rfl (And.intro ⟨rfl, by omega, by omega⟩ ?_))))
  conv => whnf
  rw [h4, Int.toNat_natCast, w1.1]
  refine And.intro ⟨rfl, by omega, by omega⟩ ?_
  conv => whnf
  rw [show ((p : Int) + W.2 p).toNat = p + (W.2 p).toNat by omega, w2.1]
  by_cases c4 : W.2 (p + (W.2 p).toNat) = 0
  · refine And.intro ⟨⟨by omega, by omega⟩, ⟨by omega, by omega⟩⟩ (And.intro (fun c1 => absurd c1 (by omega)) (fun _ => ?_))
    exact And.intro (bad (if_neg (fun z => z.2.2.2.2 c4))) trivial
  refine And.intro ⟨⟨by omega, by omega⟩, ⟨by omega, by omega⟩⟩ (And.intro (fun _ => ?_) (fun c2 => absurd c2 (by omega)))
  refine And.intro rfl (And.intro rfl (And.intro rfl (And.intro ⟨rfl, by omega, by omega⟩ ?_)))
  conv => whnf
  rw [h4, Int.toNat_natCast, w1.1]
  have e : pE W p = p + (W.2 p).toNat + 1 := if_pos ⟨c1, c2.1, c2.2, c3, c4⟩
  refine And.intro rfl (And.intro (Or.inr rfl) (Or.inl (Or.inl ⟨rfl, by omega, ?_⟩)))
  rw [show (p : Int) + (W.2 p + 1) = (pE W p : Int) by omega]
theorem imX8_passes {l : Launch} {Z : ZT} (hZ : ZOk Z) : Impl l Z yX8_passes cX8_passes 1 (some .boolean) 2 c_passes := mkImpl (rt := 2) (CL := [(127, none, c_isIn)]) hZ.1 hZ.2.1 (by decide +kernel) kX8_passes fwX8 iwX8 lwX8 trivial (Nat.le_of_ble_eq_true rfl) (List.forall_mem_cons.mpr ⟨gX8_127 hZ (by decide), fun q h => absurd h List.not_mem_nil⟩) ((v_passes _))
theorem gX8_180 {l : Launch} {Z : ZT} (hZ : ZOk Z) {d : Nat} (hd : 3 ≤ d) : CallI l Z RX8 d (180, some 8, c_passes) := fun p e s m args below meth c Q cc nL x0 X => callOk_V X (imX8_passes hZ) (by decide) rfl mlX8_180 iw_yX8_passes vw_yX8_passes nw_RX8 cw_yX8_passes ⟨by decide +kernel, by decide +kernel, by decide +kernel⟩ ⟨hd, by decide⟩
abbrev isT (W : WS) (p : Nat) : Prop := W.2 p = 1 ∧ W.2 (p + 1) = 2
def c_isTwo : Call := ⟨WS × Nat × Nat, 2, (fun (W, k, p) vs M => vs = [.inr (.inr 50), .inl (k : Int)] ∧ WB M W ∧ k < 220 ∧ M 61 k = (p : Int) ∧ p + 1 < W.1), .inr (fun (W, _, p) _ M x M' => ((x = 1 ∧ isT W p) ∨ (x = 0 ∧ ¬ isT W p)) ∧ M' = M)⟩
theorem v_isTwo (n0 : Nn) : Ver tX8_isTwo (fdX8, icX8, lcX8, []) 2 2 n0 c_isTwo := by
  rintro ⟨W, k, p⟩ vs M0 ⟨rfl, ⟨h1, h2, h3⟩, h4, h5, h6⟩ aw run
  have l60 : lnF n0 60 = 400 := rfl
  have l61 : lnF n0 61 = 220 := rfl
  have w1 := h3 p (by omega)
  have w2 := h3 (p + 1) (by omega)
  change aw 0 [some (.inr (.inr 50)), some (.inl (k : Int))] [] M0
  refine run 60 [] _ _ _ _ ?_
  refine And.intro rfl (And.intro rfl (And.intro ⟨rfl, by omega, by omega⟩ ?_))
  conv => whnf
  rw [Int.toNat_natCast, h5]
  refine And.intro ⟨rfl, by omega, by omega⟩ ?_
  conv => whnf
  rw [Int.toNat_natCast, w1.1]
  by_cases c1 : W.2 p = 1
  rotate_left
  · refine And.intro ⟨⟨by omega, by omega⟩, ⟨by omega, by omega⟩⟩ (And.intro (fun _ => ?_) (fun c2 => absurd c2 (by omega)))
    exact And.intro (Or.inl rfl) (Or.inl ⟨Or.inr ⟨rfl, fun z => c1 z.1⟩, rfl⟩)
  refine And.intro ⟨⟨by omega, by omega⟩, ⟨by omega, by omega⟩⟩ (And.intro (fun c1 => absurd c1 (by omega)) (fun _ => ?_))
  refine And.intro rfl (And.intro rfl (And.intro ⟨rfl, by omega, by omega⟩ ?_))
  conv => whnf
  rw [Int.toNat_natCast, h5]
  refine And.intro ⟨rfl, by omega, by omega⟩ ?_
  conv => whnf
  rw [show ((p : Int) + 1).toNat = p + 1 by omega, w2.1]
  by_cases c2 : W.2 (p + 1) = 2
  · refine And.intro ⟨⟨by omega, by omega⟩, ⟨by omega, by omega⟩⟩ (And.intro (fun c1 => absurd c1 (by omega)) (fun _ => ?_))
    exact And.intro (Or.inr rfl) (Or.inl ⟨Or.inl ⟨rfl, c1, c2⟩, rfl⟩)
  · refine And.intro ⟨⟨by omega, by omega⟩, ⟨by omega, by omega⟩⟩ (And.intro (fun _ => ?_) (fun c2 => absurd c2 (by omega)))
    exact And.intro (Or.inl rfl) (Or.inl ⟨Or.inr ⟨rfl, fun z => c2 z.2⟩, rfl⟩)
theorem imX8_isTwo {l : Launch} {Z : ZT} (hZ : ZOk Z) : Impl l Z yX8_isTwo cX8_isTwo 2 (some .boolean) 1 c_isTwo := mkImpl (rt := 2) (CL := []) hZ.1 hZ.2.1 (by decide +kernel) kX8_isTwo fwX8 iwX8 lwX8 trivial (Nat.le_of_ble_eq_true rfl) (fun q h => absurd h List.not_mem_nil) ((v_isTwo _))
theorem gX8_184 {l : Launch} {Z : ZT} (hZ : ZOk Z) {d : Nat} (hd : 2 ≤ d) : CallI l Z RX8 d (184, some 8, c_isTwo) := fun p e s m args below meth c Q cc nL x0 X => callOk_V X (imX8_isTwo hZ) (by decide) rfl mlX8_184 iw_yX8_isTwo vw_yX8_isTwo nw_RX8 cw_yX8_isTwo ⟨by decide +kernel, by decide +kernel, by decide +kernel⟩ ⟨hd, by decide⟩
/-- a node that begins at p: how many factors are to come, where its witness stands (-1: it is 2's), the place of the first factor; 0: none -/
def o1 (W : WS) (p : Nat) : Nat × Int × Nat :=
  if pE W p = 0 then (0, 0, 0) else if isT W p then (0, -1, pE W p)
  else if pE W (pE W p) ≠ 0 ∧ pE W (pE W p) < W.1 ∧ 1 ≤ W.2 (pE W (pE W p)) ∧ W.2 (pE W (pE W p)) ≤ 20 then ((W.2 (pE W (pE W p))).toNat, (pE W p : Int), pE W (pE W p) + 1) else (0, 0, 0)
theorem pE_b {W : WS} {p : Nat} (h : pE W p ≠ 0) : p + 2 ≤ pE W p ∧ pE W p ≤ W.1 ∧ p < W.1 ∧ 1 ≤ W.2 p ∧ W.2 p ≤ 64 ∧ p + (W.2 p).toNat < W.1 ∧ W.2 (p + (W.2 p).toNat) ≠ 0 ∧ pE W p = p + (W.2 p).toNat + 1 := by
  unfold pE at h ⊢
  split at h
  · rename_i c
    rw [if_pos c]
    have c2 := c.2.1
    have c4 := c.2.2.2.1
    exact ⟨by omega, by omega, c.1, c.2.1, c.2.2.1, c.2.2.2.1, c.2.2.2.2, rfl⟩
  · exact absurd rfl h
def FOp (M M' : Mem) (K : Nat) : Prop := (∀ o, o < 50 ∨ 65 < o ∨ (50 < o ∧ o < 61) → M' o = M o) ∧ (∀ j, j ≠ 19 → j ≠ 20 → M' 50 j = M 50 j) ∧ ∀ o j, 61 ≤ o → o ≤ 65 → j ≠ K → M' o j = M o j
theorem FOp.rf (M : Mem) (K : Nat) : FOp M M K := ⟨fun _ _ => rfl, fun _ _ _ => rfl, fun _ _ _ _ _ => rfl⟩
theorem FOp.a {M M' : Mem} {K o : Nat} {x : Int} (h : FOp M M' K) (h1 : 61 ≤ o) (h2 : o ≤ 65) : FOp M (up2 M' o K x) K := ⟨fun p hp => by rw [up2_i (by omega)]; exact h.1 p hp, fun j a b => by rw [up2_i (by omega)]; exact h.2.1 j a b, fun p j a b c => by
  by_cases e : p = o
  · subst e
    rw [up2_k c]
    exact h.2.2 p j a b c
  · rw [up2_i e]
    exact h.2.2 p j a b c⟩
theorem FOp.c {M M' : Mem} {K j : Nat} {x : Int} (h : FOp M M' K) (h1 : j = 19 ∨ j = 20) : FOp M (up2 M' 50 j x) K := ⟨fun p hp => by rw [up2_i (by omega)]; exact h.1 p hp, fun i a b => by rw [up2_k (by omega)]; exact h.2.1 i a b, fun p i a b c => by rw [up2_i (by omega)]; exact h.2.2 p i a b c⟩
theorem FOp.wb {M M' : Mem} {K : Nat} {W : WS} (h : FOp M M' K) (hW : WB M W) : WB M' W := by
  obtain ⟨h1, h2, h3⟩ := hW
  exact ⟨by rw [h.2.1 18 (by decide) (by decide)]; exact h1, h2, fun i hi => by rw [h.1 60 (by omega)]; exact h3 i hi⟩
def c_opens : Call := ⟨WS × Nat × Nat × Int × Int, 3, (fun (W, K, p, par, t) vs M => vs = [.inr (.inr 50), .inl par, .inl t] ∧ WB M W ∧ M 50 19 = (K : Int) ∧ K < 220 ∧ M 50 20 = (p : Int) ∧ p ≤ 500), .inr (fun (W, K, p, par, t) _ M x M' => FOp M M' K ∧ ((x = 1 ∧ (o1 W p).2.2 ≠ 0 ∧ M' 50 19 = ((K + 1 : Nat) : Int) ∧ M' 50 20 = ((o1 W p).2.2 : Int) ∧ M' 61 K = (p : Int) ∧ M' 62 K = (o1 W p).2.1 ∧ M' 63 K = par ∧ M' 64 K = t ∧ M' 65 K = ((o1 W p).1 : Int)) ∨ (x = 0 ∧ (o1 W p).2.2 = 0)))⟩
