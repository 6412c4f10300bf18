/-! ===== the class: words ===== -/
def wA (W : WS) (i : Int) : Int := if 0 ≤ i ∧ i < (W.1 : Int) then W.2 i.toNat else -1
theorem wA_b {n : Nn} {M : Mem} {W : WS} (hW : XW n M W) (i : Int) : -1 ≤ wA W i ∧ wA W i ≤ 32767 := by
  unfold wA
  split
  · have := (hW.2.2.2 i.toNat (by omega)).2
    omega
  · omega
theorem wA_n {W : WS} {p : Nat} (h : p < W.1) : wA W (p : Int) = W.2 p := by
  unfold wA
  rw [if_pos (by omega), Int.toNat_natCast]
theorem wA_o {W : WS} {i : Int} (h : ¬ (0 ≤ i ∧ i < (W.1 : Int))) : wA W i = -1 := if_neg h
def c_wordAt (n : Nn) : Call := ⟨WS × Int, 2, (fun (W, i) vs M => vs = [.inr (.inr 43), .inl i] ∧ inR i ∧ XW n M W), .inr (fun (W, i) _ M x M' => x = wA W i ∧ M' = M)⟩
theorem v_wordAt (n : Nn) : Ver tX2_wordAt (fdX2, icX2, lcX2, []) 1 2 n (c_wordAt n) := by
  rintro ⟨W, i⟩ vs M0 ⟨rfl, ii, hW⟩ aw run
  have l44 : lnF n 44 = n.2.2 := rfl
  have h1 := hW.1
  have h2 := hW.2.1
  have h3 := hW.2.2.1
  unfold inR at ii
  change aw 0 [some (.inr (.inr 43)), some (.inl i)] [] M0
  refine run 60 [] _ _ _ _ ?_
  refine And.intro ⟨⟨by omega, by omega⟩, ⟨by omega, by omega⟩⟩ (And.intro (fun c1 => ?_) (fun c2 => ?_))
  · exact Or.inl ⟨(wA_o (by omega)).symm, rfl⟩
  refine And.intro rfl ?_
  refine And.intro ⟨⟨by omega, by omega⟩, ⟨by omega, by omega⟩⟩ (And.intro (fun c1 => ?_) (fun c2 => ?_))
  · exact Or.inl ⟨(wA_o (by omega)).symm, rfl⟩
  refine And.intro rfl (And.intro ⟨rfl, by omega, by omega⟩ (Or.inl ⟨?_, rfl⟩))
  show M0 44 i.toNat = wA W i
  unfold wA
  rw [if_pos (by omega)]
  exact (hW.2.2.2 i.toNat (by omega)).1
theorem imX2_wordAt {l : Launch} {Z : ZT} (hZ : ZOk Z) : Impl l Z yX2_wordAt cX2_wordAt 2 (some .int) 1 (c_wordAt (zN Z)) := mkImpl (rt := 1) (CL := []) hZ.1 hZ.2.1 (by decide +kernel) kX2_wordAt fwX2 iwX2 lwX2 trivial (Nat.le_of_ble_eq_true rfl) (fun q h => absurd h List.not_mem_nil) ((v_wordAt (zN Z)))
theorem gX2_76 {l : Launch} {Z : ZT} (hZ : ZOk Z) {d : Nat} (hd : 2 ≤ d) : CallI l Z RX2 d (76, some 2, (c_wordAt (zN Z))) := fun p e s m args below meth c Q cc nL x0 X => callOk_V X (imX2_wordAt hZ) (by decide) rfl mlX2_76 iw_yX2_wordAt vw_yX2_wordAt nw_RX2 cw_yX2_wordAt ⟨by decide +kernel, by decide +kernel, show (parseMethodDescriptor yX2_wordAt.desc).map (fun d => d.parameters.length) = some 1 by decide +kernel⟩ ⟨hd, by decide⟩
theorem gX7_264 {l : Launch} {Z : ZT} (hZ : ZOk Z) {d : Nat} (hd : 2 ≤ d) : CallI l Z RX7 d (264, some 2, (c_wordAt (zN Z))) := fun p e s m args below meth c Q cc nL x0 X => callOk_V X (imX2_wordAt hZ) (by decide) rfl mlX7_264 iw_yX2_wordAt vw_yX2_wordAt nw_RX2 cw_yX2_wordAt ⟨by decide +kernel, by decide +kernel, show (parseMethodDescriptor yX2_wordAt.desc).map (fun d => d.parameters.length) = some 1 by decide +kernel⟩ ⟨hd, by decide⟩
def FWx (M M' : Mem) : Prop := ∀ o, o ≠ 43 → o ≠ 44 → M' o = M o
def c_append (n : Nn) : Call := ⟨WS × Int, 2, (fun (W, w) vs M => vs = [.inr (.inr 43), .inl w] ∧ 0 ≤ w ∧ w ≤ 32767 ∧ XW n M W), .inr (fun (W, w) _ M x M' => ((x = 1 ∧ W.1 ≠ n.2.2 ∧ XW n M' (W.1 + 1, va_up W.2 W.1 w)) ∨ (x = 0 ∧ W.1 = n.2.2 ∧ M' = M)) ∧ FWx M M')⟩
theorem v_append (n : Nn) : Ver tX2_append (fdX2, icX2, lcX2, []) 2 2 n (c_append n) := by
  rintro ⟨W, w⟩ vs M0 ⟨rfl, hw1, hw2, hW⟩ aw run
  have l44 : lnF n 44 = n.2.2 := rfl
  obtain ⟨h1, h2, h3, h4⟩ := hW
  change aw 0 [some (.inr (.inr 43)), some (.inl w)] [] M0
  refine run 60 [] _ _ _ _ ?_
  refine And.intro rfl (And.intro rfl (And.intro rfl ?_))
  conv => whnf
  rw [h1]
  refine And.intro ⟨⟨by omega, by omega⟩, ⟨by omega, by omega⟩⟩ (And.intro (fun c1 => ?_) (fun c2 => ?_))
  rotate_left
  · exact And.intro (Or.inl rfl) (Or.inl ⟨Or.inr ⟨rfl, by omega, rfl⟩, fun _ _ _ => rfl⟩)
  refine And.intro rfl (And.intro rfl (And.intro ⟨rfl, by omega, by omega⟩ (And.intro rfl (And.intro rfl (And.intro (Or.inr rfl) (Or.inl ?_))))))
  have e : up2 (up2 M0 44 (M0 43 1).toNat w) 43 1 (up2 M0 44 (M0 43 1).toNat w 43 1 + 1) = up2 (up2 M0 44 W.1 w) 43 1 ((W.1 : Int) + 1) := by
    rw [up2_i (show 43 ≠ 44 by decide), h1, Int.toNat_natCast]
  show ((1 = 1 ∧ W.1 ≠ n.2.2 ∧ XW n (up2 (up2 M0 44 (M0 43 1).toNat w) 43 1 (up2 M0 44 (M0 43 1).toNat w 43 1 + 1)) (W.1 + 1, va_up W.2 W.1 w)) ∨ ((1 : Int) = 0 ∧ W.1 = n.2.2 ∧ up2 (up2 M0 44 (M0 43 1).toNat w) 43 1 (up2 M0 44 (M0 43 1).toNat w 43 1 + 1) = M0)) ∧ FWx M0 (up2 (up2 M0 44 (M0 43 1).toNat w) 43 1 (up2 M0 44 (M0 43 1).toNat w 43 1 + 1))
  rw [e]
  refine ⟨Or.inl ⟨rfl, by omega, by rw [up2_s]; show (W.1 : Int) + 1 = ((W.1 + 1 : Nat) : Int); omega, by show W.1 + 1 ≤ n.2.2; omega, h3, fun i hi => ?_⟩, fun o a b => by rw [up2_i a, up2_i b]⟩
  change i < W.1 + 1 at hi
  rw [up2_i (by decide)]
  show up2 M0 44 W.1 w 44 i = va_up W.2 W.1 w i ∧ 0 ≤ va_up W.2 W.1 w i ∧ va_up W.2 W.1 w i ≤ 32767
  by_cases c : i = W.1
  · rw [c, up2_s, va_up_self]
    exact ⟨rfl, hw1, hw2⟩
  · rw [up2_k c, va_up_ne _ _ c]
    exact h4 i (by omega)
theorem imX2_append {l : Launch} {Z : ZT} (hZ : ZOk Z) : Impl l Z yX2_append cX2_append 2 (some .boolean) 1 (c_append (zN Z)) := mkImpl (rt := 2) (CL := []) hZ.1 hZ.2.1 (by decide +kernel) kX2_append fwX2 iwX2 lwX2 trivial (Nat.le_of_ble_eq_true rfl) (fun q h => absurd h List.not_mem_nil) ((v_append (zN Z)))
theorem gX7_261 {l : Launch} {Z : ZT} (hZ : ZOk Z) {d : Nat} (hd : 2 ≤ d) : CallI l Z RX7 d (261, some 2, (c_append (zN Z))) := fun p e s m args below meth c Q cc nL x0 X => callOk_V X (imX2_append hZ) (by decide) rfl mlX7_261 iw_yX2_append vw_yX2_append nw_RX2 cw_yX2_append ⟨by decide +kernel, by decide +kernel, show (parseMethodDescriptor yX2_append.desc).map (fun d => d.parameters.length) = some 1 by decide +kernel⟩ ⟨hd, by decide⟩
def c_copyW (n : Nn) : Call := ⟨List Int × Nat, 3, (fun (l, _) vs M => vs = [.inr (.inr 43), .inr (.inr 48), .inl (l.length : Int)] ∧ l.length ≤ n.2.2 ∧ n.2.2 ≤ 400 ∧ (∀ i x, l[i]? = some x → M 48 i = x ∧ 0 ≤ x ∧ x ≤ 32767)), .inl (fun (l, _) _ M M' => XW n M' (l.length, fun i => l.getD i 0) ∧ FWx M M')⟩
theorem v_copyW (n : Nn) : Ver tX2_copyWords (fdX2, icX2, lcX2, [(47, none, c_min), (53, none, cpC n)]) 0 3 n (c_copyW n) := by
  rintro ⟨l, z⟩ vs M0 ⟨rfl, hl, hn, hD⟩ aw run
  have l44 : lnF n 44 = n.2.2 := rfl
  have l48 : lnF n 48 = n.2.2 := rfl
  change aw 0 [some (.inr (.inr 43)), some (.inr (.inr 48)), some (.inl (l.length : Int))] [] M0
  refine run 60 [] _ _ _ _ ?_
  refine And.intro rfl (And.intro rfl ⟨((l.length : Int), (lnF n 44 : Int)), ⟨rfl, ⟨by omega, by omega⟩, ⟨by omega, by omega⟩⟩, ?_⟩)
  rintro x M0 ⟨rfl, rfl⟩
  have e0 : min (l.length : Int) (lnF n 44 : Int) = (l.length : Int) := by omega
  refine And.intro rfl (And.intro rfl (And.intro rfl ?_))
  conv => whnf
  rw [e0]
  have e1 : up2 M0 43 1 (l.length : Int) 43 1 = (l.length : Int) := up2_s
  rw [e1]
  refine ⟨(), ⟨rfl, rfl, by omega, by omega, by omega, by omega, by omega⟩, ?_⟩
  rintro M1 hM1
  change M1 = va_up (up2 M0 43 1 (l.length : Int)) 44 (va_cpy (up2 M0 43 1 (l.length : Int) 48) (up2 M0 43 1 (l.length : Int) 44) ((0 : Int)).toNat ((0 : Int)).toNat ((l.length : Int)).toNat) at hM1
  refine Or.inl ⟨⟨by rw [hM1, va_up_ne _ _ (by decide), up2_s], hl, hn, fun i hi => ?_⟩, fun o a b => by rw [hM1, va_up_ne _ _ b, up2_i a]⟩
  change i < l.length at hi
  show M1 44 i = l.getD i 0 ∧ 0 ≤ l.getD i 0 ∧ l.getD i 0 ≤ 32767
  have h := hD i l[i] (List.getElem?_eq_getElem hi)
  have e2 : l.getD i 0 = l[i] := by rw [List.getD_eq_getElem?_getD, List.getElem?_eq_getElem hi]; rfl
  rw [hM1, va_up_self, cpy_at0 (by omega), up2_i (by decide), e2]
  exact h
theorem imX2_copyWords {l : Launch} {Z : ZT} (hZ : ZOk Z) : Impl l Z yX2_copyWords cX2_copyWords 3 none 2 (c_copyW (zN Z)) := mkImpl (rt := 0) (CL := [(47, none, c_min), (53, none, cpC (zN Z))]) hZ.1 hZ.2.1 (by decide +kernel) kX2_copyWords fwX2 iwX2 lwX2 trivial (Nat.le_of_ble_eq_true rfl) (List.forall_mem_cons.mpr ⟨gX2_47 hZ (by decide), List.forall_mem_cons.mpr ⟨gcp_X2 hZ (by decide), fun q h => absurd h List.not_mem_nil⟩⟩) ((v_copyW (zN Z)))
theorem gX7_288 {l : Launch} {Z : ZT} (hZ : ZOk Z) {d : Nat} (hd : 3 ≤ d) : CallI l Z RX7 d (288, some 2, (c_copyW (zN Z))) := fun p e s m args below meth c Q cc nL x0 X => callOk_V X (imX2_copyWords hZ) (by decide) rfl mlX7_288 iw_yX2_copyWords vw_yX2_copyWords nw_RX2 cw_yX2_copyWords ⟨by decide +kernel, by decide +kernel, show (parseMethodDescriptor yX2_copyWords.desc).map (fun d => d.parameters.length) = some 2 by decide +kernel⟩ ⟨hd, by decide⟩
def c_eoN (n : Nn) : Call := ⟨WS × Int, 2, (fun (W, a) vs M => vs = [.inr (.inr 43), .inl a] ∧ -1 ≤ a ∧ a ≤ 2000 ∧ XW n M W), .inr (fun (W, a) _ M x M' => ((x = -1 ∧ (a < 0 ∨ pE W a.toNat = 0)) ∨ (0 ≤ a ∧ pE W a.toNat ≠ 0 ∧ x = (pE W a.toNat : Int))) ∧ M' = M)⟩
theorem v_eoN (n : Nn) : Ver tX2_endOfNumber (fdX2, icX2, lcX2, [(76, some 2, c_wordAt n)]) 1 3 n (c_eoN n) := by
  rintro ⟨W, a⟩ vs M0 ⟨rfl, ha1, ha2, hW⟩ aw run
  have hW4 := hW.2.2.2
  have bad : ∀ l : Int, (a < 0 ∨ pE W a.toNat = 0) → aw 27 [some (.inr (.inr 43)), some (.inl a), some (.inl l)] [] M0 := by
    intro l hb
    refine run 60 [] _ _ _ _ ?_
    exact Or.inl ⟨Or.inl ⟨rfl, hb⟩, rfl⟩
  change aw 0 [some (.inr (.inr 43)), some (.inl a), none] [] M0
  refine run 60 [27] _ _ _ _ ?_
  refine And.intro rfl ⟨(W, a), ⟨rfl, ⟨by omega, by omega⟩, hW⟩, ?_⟩
  rintro x M0 ⟨rfl, rfl⟩
  have hb := wA_b hW a
  have pz : ¬ (0 ≤ a ∧ a.toNat < W.1 ∧ 1 ≤ W.2 a.toNat ∧ W.2 a.toNat ≤ 64 ∧ a.toNat + (W.2 a.toNat).toNat < W.1 ∧ W.2 (a.toNat + (W.2 a.toNat).toNat) ≠ 0) → (a < 0 ∨ pE W a.toNat = 0) := by
    intro h
    by_cases c : a < 0
    · exact Or.inl c
    · exact Or.inr (if_neg (fun z => h ⟨by omega, z⟩))
  by_cases c0 : 0 ≤ a ∧ a < (W.1 : Int)
  rotate_left
  · rw [wA_o c0]
    refine And.intro ⟨⟨by omega, by omega⟩, ⟨by omega, by omega⟩⟩ (And.intro (fun _ => ?_) (fun c2 => absurd c2 (by omega)))
    exact And.intro (bad _ (pz (by omega))) trivial
  have e1 : wA W a = W.2 a.toNat := if_pos c0
  rw [e1] at hb ⊢
  refine And.intro ⟨⟨by omega, by omega⟩, ⟨by omega, by omega⟩⟩ (And.intro (fun c1 => ?_) (fun c2 => ?_))
  · exact And.intro (bad _ (pz (by omega))) trivial
  refine And.intro ⟨⟨by omega, by omega⟩, ⟨by omega, by omega⟩⟩ (And.intro (fun c1 => ?_) (fun c2 => ?_))
  · exact And.intro (bad _ (pz (by omega))) trivial
  refine And.intro rfl ⟨(W, a + W.2 a.toNat), ⟨rfl, ⟨by omega, by omega⟩, hW⟩, ?_⟩
  rintro x M0 ⟨rfl, rfl⟩
  have hb2 := wA_b hW (a + W.2 a.toNat)
  by_cases c3 : a + W.2 a.toNat < (W.1 : Int)
  rotate_left
  · rw [wA_o (by omega)]
    refine And.intro ⟨⟨by omega, by omega⟩, ⟨by omega, by omega⟩⟩ (And.intro (fun c1 => absurd c1 (by omega)) (fun _ => ?_))
    exact And.intro (bad _ (pz (by omega))) trivial
  have e2 : wA W (a + W.2 a.toNat) = W.2 (a.toNat + (W.2 a.toNat).toNat) := by
    unfold wA
    rw [if_pos (by omega), show (a + W.2 a.toNat).toNat = a.toNat + (W.2 a.toNat).toNat by omega]
  rw [e2] at hb2 ⊢
  have hb3 := (hW4 (a.toNat + (W.2 a.toNat).toNat) (by omega)).2
  refine And.intro ⟨⟨by omega, by omega⟩, ⟨by omega, by omega⟩⟩ (And.intro (fun c1 => ?_) (fun c2 => ?_))
  · have e : pE W a.toNat = a.toNat + (W.2 a.toNat).toNat + 1 := if_pos ⟨by omega, by omega, by omega, by omega, by omega⟩
    refine Or.inl ⟨Or.inr ⟨c0.1, by omega, ?_⟩, rfl⟩
    show a + W.2 a.toNat + 1 = (pE W a.toNat : Int)
    omega
  · refine And.intro (bad _ (pz (fun z => ?_))) trivial
    have := z.2.2.2.2.2
    omega
theorem imX2_endOfNumber {l : Launch} {Z : ZT} (hZ : ZOk Z) : Impl l Z yX2_endOfNumber cX2_endOfNumber 3 (some .int) 2 (c_eoN (zN Z)) := mkImpl (rt := 1) (CL := [(76, some 2, (c_wordAt (zN Z)))]) hZ.1 hZ.2.1 (by decide +kernel) kX2_endOfNumber fwX2 iwX2 lwX2 trivial (Nat.le_of_ble_eq_true rfl) (List.forall_mem_cons.mpr ⟨gX2_76 hZ (by decide), fun q h => absurd h List.not_mem_nil⟩) ((v_eoN (zN Z)))
theorem gX2_65 {l : Launch} {Z : ZT} (hZ : ZOk Z) {d : Nat} (hd : 3 ≤ d) : CallI l Z RX2 d (65, some 2, (c_eoN (zN Z))) := fun p e s m args below meth c Q cc nL x0 X => callOk_V X (imX2_endOfNumber hZ) (by decide) rfl mlX2_65 iw_yX2_endOfNumber vw_yX2_endOfNumber nw_RX2 cw_yX2_endOfNumber ⟨by decide +kernel, by decide +kernel, show (parseMethodDescriptor yX2_endOfNumber.desc).map (fun d => d.parameters.length) = some 1 by decide +kernel⟩ ⟨hd, by decide⟩
def c_isTw (n : Nn) : Call := ⟨WS × Nat, 2, (fun (W, p) vs M => vs = [.inr (.inr 43), .inl (p : Int)] ∧ p + 1 < W.1 ∧ XW n M W), .inr (fun (W, p) _ M x M' => ((x = 1 ∧ isT W p) ∨ (x = 0 ∧ ¬ isT W p)) ∧ M' = M)⟩
theorem v_isTw (n : Nn) : Ver tX2_isTwo (fdX2, icX2, lcX2, [(76, some 2, c_wordAt n)]) 2 2 n (c_isTw n) := by
  rintro ⟨W, p⟩ vs M0 ⟨rfl, hp, hW⟩ aw run
  have h3 := hW.2.1
  have h4 := hW.2.2.1
  have b1 := (hW.2.2.2 p (by omega)).2
  have b2 := (hW.2.2.2 (p + 1) hp).2
  change aw 0 [some (.inr (.inr 43)), some (.inl (p : Int))] [] M0
  refine run 60 [] _ _ _ _ ?_
  refine And.intro rfl ⟨(W, (p : Int)), ⟨rfl, ⟨by omega, by omega⟩, hW⟩, ?_⟩
  rintro x M0 ⟨rfl, rfl⟩
  rw [wA_n (by omega)]
  refine And.intro ⟨⟨by omega, by omega⟩, ⟨by omega, by omega⟩⟩ (And.intro (fun c1 => ?_) (fun c2 => ?_))
  · exact And.intro (Or.inl rfl) (Or.inl ⟨Or.inr ⟨rfl, fun z => c1 z.1⟩, rfl⟩)
  refine And.intro rfl ⟨(W, (p : Int) + 1), ⟨rfl, ⟨by omega, by omega⟩, hW⟩, ?_⟩
  rintro x M0 ⟨rfl, rfl⟩
  rw [show (p : Int) + 1 = ((p + 1 : Nat) : Int) by omega, wA_n hp]
  by_cases c3 : W.2 (p + 1) = 2
  · refine And.intro ⟨⟨by omega, by omega⟩, ⟨by omega, by omega⟩⟩ (And.intro (fun c1 => absurd c1 (by omega)) (fun _ => ?_))
    exact And.intro (Or.inr rfl) (Or.inl ⟨Or.inl ⟨rfl, c2, c3⟩, rfl⟩)
  · refine And.intro ⟨⟨by omega, by omega⟩, ⟨by omega, by omega⟩⟩ (And.intro (fun _ => ?_) (fun c2 => absurd c2 (by omega)))
    exact And.intro (Or.inl rfl) (Or.inl ⟨Or.inr ⟨rfl, fun z => c3 z.2⟩, rfl⟩)
theorem imX2_isTwo {l : Launch} {Z : ZT} (hZ : ZOk Z) : Impl l Z yX2_isTwo cX2_isTwo 2 (some .boolean) 2 (c_isTw (zN Z)) := mkImpl (rt := 2) (CL := [(76, some 2, (c_wordAt (zN Z)))]) hZ.1 hZ.2.1 (by decide +kernel) kX2_isTwo fwX2 iwX2 lwX2 trivial (Nat.le_of_ble_eq_true rfl) (List.forall_mem_cons.mpr ⟨gX2_76 hZ (by decide), fun q h => absurd h List.not_mem_nil⟩) ((v_isTw (zN Z)))
theorem gX2_69 {l : Launch} {Z : ZT} (hZ : ZOk Z) {d : Nat} (hd : 3 ≤ d) : CallI l Z RX2 d (69, some 2, (c_isTw (zN Z))) := fun p e s m args below meth c Q cc nL x0 X => callOk_V X (imX2_isTwo hZ) (by decide) rfl mlX2_69 iw_yX2_isTwo vw_yX2_isTwo nw_RX2 cw_yX2_isTwo ⟨by decide +kernel, by decide +kernel, show (parseMethodDescriptor yX2_isTwo.desc).map (fun d => d.parameters.length) = some 1 by decide +kernel⟩ ⟨hd, by decide⟩
def c_wordX (n : Nn) : Call := ⟨WS × Int, 2, (fun (W, w) vs M => vs = [.inr (.inr 0), .inl w] ∧ inR w ∧ XW n M W), .inr (fun (W, w) _ M x M' => x = (wdF n W w).1 ∧ XW n M' (wdF n W w).2 ∧ FWx M M')⟩
theorem v_wordX (n : Nn) : Ver tX7_word (fdX7, icX7, lcX7, [(117, none, c_btw 0 32767), (261, some 2, c_append n)]) 1 2 n (c_wordX n) := by
  rintro ⟨W, w⟩ vs M0 ⟨rfl, iw, hW⟩ aw run
  change aw 0 [some (.inr (.inr 0)), some (.inl w)] [] M0
  refine run 60 [] _ _ _ _ ?_
  refine ⟨(w, 0), ⟨rfl, iw⟩, ?_⟩
  rintro x M0 ⟨⟨rfl, hw⟩ | ⟨rfl, hw⟩, rfl⟩
  rotate_left
  · refine And.intro ⟨⟨by omega, by omega⟩, ⟨by omega, by omega⟩⟩ (And.intro (fun c1 => absurd c1 (by omega)) (fun _ => ?_))
    refine Or.inl ?_
    show -3 = (wdF n W w).1 ∧ XW n M0 (wdF n W w).2 ∧ FWx M0 M0
    rw [show wdF n W w = (-3, W) from if_neg hw]
    exact ⟨rfl, hW, fun _ _ _ => rfl⟩
  refine And.intro ⟨⟨by omega, by omega⟩, ⟨by omega, by omega⟩⟩ (And.intro (fun _ => ?_) (fun c2 => absurd c2 (by omega)))
  have e : wdF n W w = (if W.1 = n.2.2 then (-9, W) else (((W.1 + 1 : Nat) : Int), (W.1 + 1, va_up W.2 W.1 w))) := if_pos hw
  refine And.intro rfl (And.intro rfl ⟨(W, w), ⟨rfl, hw.1, hw.2, hW⟩, ?_⟩)
  rintro x M1 ⟨⟨rfl, h1, hW1⟩ | ⟨rfl, h1, rfl⟩, hF1⟩
  · refine And.intro ⟨⟨by omega, by omega⟩, ⟨by omega, by omega⟩⟩ (And.intro (fun c1 => absurd c1 (by omega)) (fun _ => ?_))
    have c1 : M1 43 1 = ((W.1 + 1 : Nat) : Int) := hW1.1
    refine And.intro rfl (And.intro rfl (Or.inl ?_))
    show M1 43 1 = (wdF n W w).1 ∧ XW n M1 (wdF n W w).2 ∧ FWx M0 M1
    rw [e, if_neg h1]
    exact ⟨c1, hW1, hF1⟩
  · refine And.intro ⟨⟨by omega, by omega⟩, ⟨by omega, by omega⟩⟩ (And.intro (fun _ => ?_) (fun c2 => absurd c2 (by omega)))
    refine Or.inl ?_
    show -9 = (wdF n W w).1 ∧ XW n M1 (wdF n W w).2 ∧ FWx M1 M1
    rw [e, if_pos h1]
    exact ⟨rfl, hW, hF1⟩
theorem imX7_word {l : Launch} {Z : ZT} (hZ : ZOk Z) : Impl l Z yX7_word cX7_word 2 (some .int) 2 (c_wordX (zN Z)) := mkImpl (rt := 1) (CL := [(117, none, (c_btw 0 32767)), (261, some 2, (c_append (zN Z)))]) hZ.1 hZ.2.1 (by decide +kernel) kX7_word fwX7 iwX7 lwX7 trivial (Nat.le_of_ble_eq_true rfl) (List.forall_mem_cons.mpr ⟨gX7_117 hZ (by decide), List.forall_mem_cons.mpr ⟨gX7_261 hZ (by decide), fun q h => absurd h List.not_mem_nil⟩⟩) ((v_wordX (zN Z)))
def c_toldX (n : Nn) : Call := ⟨WS × Int, 2, (fun (W, i) vs M => vs = [.inr (.inr 0), .inl i] ∧ inR i ∧ XW n M W), .inr (fun (W, i) _ M x M' => x = wA W i ∧ M' = M)⟩
theorem v_toldX (n : Nn) : Ver tX7_told (fdX7, icX7, lcX7, [(264, some 2, c_wordAt n)]) 1 2 n (c_toldX n) := by
  rintro ⟨W, i⟩ vs M0 ⟨rfl, ii, hW⟩ aw run
  change aw 0 [some (.inr (.inr 0)), some (.inl i)] [] M0
  refine run 60 [] _ _ _ _ ?_
  refine And.intro rfl (And.intro rfl ⟨(W, i), ⟨rfl, ii, hW⟩, ?_⟩)
  rintro x M0 ⟨rfl, rfl⟩
  exact Or.inl ⟨rfl, rfl⟩
theorem imX7_told {l : Launch} {Z : ZT} (hZ : ZOk Z) : Impl l Z yX7_told cX7_told 2 (some .int) 2 (c_toldX (zN Z)) := mkImpl (rt := 1) (CL := [(264, some 2, (c_wordAt (zN Z)))]) hZ.1 hZ.2.1 (by decide +kernel) kX7_told fwX7 iwX7 lwX7 trivial (Nat.le_of_ble_eq_true rfl) (List.forall_mem_cons.mpr ⟨gX7_264 hZ (by decide), fun q h => absurd h List.not_mem_nil⟩) ((v_toldX (zN Z)))
def c_clearX (n : Nn) : Call := ⟨WS × Nat, 1, (fun (W, _) vs M => vs = [.inr (.inr 0)] ∧ XW n M W), .inr (fun (W, _) _ M x M' => x = (W.1 : Int) ∧ XW n M' (0, W.2) ∧ FWx M M')⟩
theorem XW.clr {n : Nn} {M : Mem} {W : WS} (h : XW n M W) : XW n (up2 M 43 1 0) (0, W.2) := ⟨by rw [up2_s]; rfl, Nat.zero_le _, h.2.2.1, fun i hi => by change i < 0 at hi; omega⟩
theorem v_clearX (n : Nn) : Ver tX7_clear (fdX7, icX7, lcX7, []) 1 2 n (c_clearX n) := by
  rintro ⟨W, z⟩ vs M0 ⟨rfl, hW⟩ aw run
  change aw 0 [some (.inr (.inr 0)), none] [] M0
  refine run 60 [] _ _ _ _ ?_
  refine And.intro rfl (And.intro rfl (And.intro rfl (And.intro rfl (Or.inl ⟨hW.1, hW.clr, fun o a _ => up2_i a⟩))))
theorem imX7_clear {l : Launch} {Z : ZT} (hZ : ZOk Z) : Impl l Z yX7_clear cX7_clear 2 (some .int) 1 (c_clearX (zN Z)) := mkImpl (rt := 1) (CL := []) hZ.1 hZ.2.1 (by decide +kernel) kX7_clear fwX7 iwX7 lwX7 trivial (Nat.le_of_ble_eq_true rfl) (fun q h => absurd h List.not_mem_nil) ((v_clearX (zN Z)))
