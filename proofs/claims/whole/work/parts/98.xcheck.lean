/-! ===== the class: check ===== -/
theorem row_p0 {W : WS} (h : (rowF W).1 ≠ 0) : pE W 0 ≠ 0 := by
  refine (o1_b (p := 0) (fun z => h ?_)).1
  rw [row_no z]
theorem row_c {W : WS} {M : Mem} (h : (rowF W).1 ≠ 0) (hS : NdS M W (rowF W).2 0) {k : Nat} {d : ND} (hd : (rowF W).2[k]? = some d) (ht : ¬ isT W d.1) : NdC W M d (chs (rowF W).2 k) := by
  have ok : ∀ c ∈ (rowF W).2, NdOk W c := nd_ok (W := W) (r := 12) (pos := 0) (par := -1) (t := 1) (idx := 0) (by decide) (by decide)
  have ch := row_ch h hd
  refine ⟨ok d (List.mem_of_getElem? hd), ht, ch.1, ch.2, fun c hc => ?_⟩
  have hc2 : c ∈ (rowF W).2 := List.mem_of_mem_drop (List.mem_filter.mp hc).1
  obtain ⟨j, hj⟩ := List.getElem?_of_mem hc2
  exact ⟨ok c hc2, (hS.2 j c hj).2⟩
def c_igf (n : Nn) : Call := ⟨WS × Nat × Nat, 3, (fun (W, r, v) vs M => vs = [.inr (.inr 43), .inr (.inr r), .inr (.inr 6)] ∧ XW n M W ∧ (rowF W).1 ≠ 0 ∧ NdS M W (rowF W).2 0 ∧ isRw r ∧ 20 < r ∧ r < 27 ∧ XR M r v ∧ nd v ≤ 64), .inr (fun (W, _, v) _ M x M' => ((x = 1 ∧ AllG W v) ∨ (x = 0 ∧ ¬ AllG W v)) ∧ FrZ M M')⟩
theorem v_igf (n : Nn) : Ver tX2_isGoodFor (fdX2, icX2, lcX2, [(88, some 2, c_rdN n), (92, none, c_order), (69, some 2, c_isTw n), (98, some 2, c_ffit n), (101, some 2, c_wit n)]) 2 4 n (c_igf n) := by
  rintro ⟨W, r, v⟩ vs M0 ⟨rfl, hW, hrow, hS, hr, hr1, hr2, hX, nv⟩ aw run
  have l45 : lnF n 45 = n.2.2 := rfl
  have w1 := hW.2.1
  have w2 := hW.2.2.1
  have p0 := row_p0 hrow
  obtain ⟨p1, p2, -, -, -, -, -, -⟩ := nv_ok hW.o p0
  have nb1 := nd_b (W := W) 12 0 (-1) 1 0 hrow
  change 0 + 2 * (rowF W).2.length ≤ (rowF W).1 ∧ 0 < (rowF W).1 ∧ (rowF W).1 ≤ W.1 ∧ _ at nb1
  have hlen : 2 * (rowF W).2.length ≤ W.1 := by omega
  have ok : ∀ c ∈ (rowF W).2, NdOk W c := nd_ok (W := W) (r := 12) (pos := 0) (par := -1) (t := 1) (idx := 0) (by decide) (by decide)
  obtain ⟨L, eL⟩ : ∃ L, L = (rowF W).2 := ⟨_, rfl⟩
  have hS4 : M0 43 4 = (L.length : Int) := by rw [eL, hS.1]; omega
  rw [← eL] at hlen
  change aw 0 [some (.inr (.inr 43)), some (.inr (.inr r)), some (.inr (.inr 6)), none] [] M0
  refine run 60 [25] _ _ _ _ ?_
  refine And.intro rfl (And.intro rfl ⟨(W, 0, 27), ⟨rfl, by decide, p0, hW⟩, ?_⟩)
  rintro x M1 ⟨-, hX1, hF1⟩
  refine And.intro rfl ⟨(27, r, nvW W 0, v), ⟨rfl, by decide, hr, hX1, by omega, hF1.keep (by decide) hr (by omega) hX, by omega⟩, ?_⟩
  rintro x M1 ⟨rfl, rfl⟩
  have f1 := hF1.Z (by decide)
  have hcm := cm3_cases (nvW W 0) v
  by_cases hv : nvW W 0 = v
  rotate_left
  · refine And.intro ⟨⟨by omega, by omega⟩, ⟨by omega, by omega⟩⟩ (And.intro (fun c1 => absurd c1 (by omega)) (fun _ => ?_))
    exact And.intro (Or.inl rfl) (Or.inl ⟨Or.inr ⟨rfl, fun z => hv z.1⟩, f1⟩)
  refine And.intro ⟨⟨by omega, by omega⟩, ⟨by omega, by omega⟩⟩ (And.intro (fun _ => ?_) (fun c2 => absurd c2 (by omega)))
  refine And.intro ?_ trivial
  have at_ : ∀ (k : Nat) (M : Mem), k < L.length → FrZ M0 M → ∃ d, L[k]? = some d ∧ M 45 k = (d.1 : Int) ∧ d.1 + 1 < W.1 ∧ XW n M W ∧ NdS M W (rowF W).2 0 := by
    intro k M hk hF
    obtain ⟨d, hd⟩ : ∃ d, L[k]? = some d := ⟨_, List.getElem?_eq_getElem hk⟩
    rw [eL] at hd
    have q := hS.2 k _ hd
    have o := o1_b (ok _ (List.mem_of_getElem? hd)).1
    have b := pE_b o.1
    refine ⟨d, by rw [eL]; exact hd, ?_, by omega, hF.w hW, ⟨by rw [hF 43 (by omega)]; exact hS.1, fun j d h => by rw [hF 45 (by omega), hF 46 (by omega)]; exact hS.2 j d h⟩⟩
    rw [hF 45 (by omega)]
    rw [Nat.zero_add] at q
    exact q.1
  have loop2 : ∀ (m k : Nat) (M : Mem), k + m = L.length → FrZ M0 M → (∀ j d, L[j]? = some d → ¬ isT W d.1 → FFt W d (chs L j)) → (∀ j d, j < k → L[j]? = some d → ¬ isT W d.1 → WHd W d (chs L j)) → aw 69 [some (.inr (.inr 43)), some (.inr (.inr r)), some (.inr (.inr 6)), some (.inl (k : Int))] [] M := by
    intro m
    induction m with
    | zero =>
      intro k M hk hF hA hB
      have h4 : M 43 4 = (L.length : Int) := by rw [hF 43 (by omega)]; exact hS4
      refine run 60 [69] _ _ _ _ ?_
      refine And.intro rfl ?_
      conv => whnf
      rw [h4]
      refine And.intro ⟨⟨by omega, by omega⟩, ⟨by omega, by omega⟩⟩ (And.intro (fun _ => ?_) (fun c2 => absurd c2 (by omega)))
      refine And.intro (Or.inr rfl) (Or.inl ⟨Or.inl ⟨rfl, hv, fun j d hd => ?_⟩, hF⟩)
      rw [← eL] at hd ⊢
      by_cases ht : isT W d.1
      · exact Or.inl ht
      · have hj : j < L.length := (List.getElem?_eq_some_iff.mp hd).1
        have a := hA j d hd ht
        have b := hB j d (by omega) hd ht
        exact Or.inr ⟨a.1, a.2, b.1, b.2⟩
    | succ m ih =>
      intro k M hk hF hA hB
      have h4 : M 43 4 = (L.length : Int) := by rw [hF 43 (by omega)]; exact hS4
      obtain ⟨d, hd, h45, hd1, hWM, hSM⟩ := at_ k M (by omega) hF
      refine run 60 [69] _ _ _ _ ?_
      refine And.intro rfl ?_
      conv => whnf
      rw [h4]
      refine And.intro ⟨⟨by omega, by omega⟩, ⟨by omega, by omega⟩⟩ (And.intro (fun c1 => absurd c1 (by omega)) (fun _ => ?_))
      refine And.intro rfl (And.intro ⟨rfl, by omega, by omega⟩ ?_)
      conv => whnf
      rw [Int.toNat_natCast, h45]
      refine And.intro rfl ⟨(W, d.1), ⟨rfl, hd1, hWM⟩, ?_⟩
      rintro x M ⟨⟨rfl, ht⟩ | ⟨rfl, ht⟩, rfl⟩
      · refine And.intro ⟨⟨by omega, by omega⟩, ⟨by omega, by omega⟩⟩ (And.intro (fun _ => ?_) (fun c2 => absurd c2 (by omega)))
        refine And.intro ?_ trivial
        rw [show (k : Int) + 1 = ((k + 1 : Nat) : Int) by omega]
        refine ih (k + 1) M (by omega) hF hA (fun j d' hj hd' ht' => ?_)
        by_cases c : j = k
        · rw [c] at hd'
          have e : d = d' := Option.some.inj (hd.symm.trans hd')
          rw [← e] at ht'
          exact absurd ht ht'
        · exact hB j d' (by omega) hd' ht'
      · refine And.intro ⟨⟨by omega, by omega⟩, ⟨by omega, by omega⟩⟩ (And.intro (fun c1 => absurd c1 (by omega)) (fun _ => ?_))
        refine And.intro rfl (And.intro ⟨rfl, by omega, by omega⟩ ?_)
        conv => whnf
        rw [Int.toNat_natCast, h45]
        have hC := row_c hrow hSM (k := k) (d := d) (by rw [← eL]; exact hd) ht
        rw [← eL] at hC
        refine And.intro rfl ⟨(W, d, chs L k), ⟨rfl, hWM, hC⟩, ?_⟩
        rintro x M2 ⟨hx, hF2⟩
        rcases hx with ⟨rfl, hx⟩ | ⟨rfl, hx⟩
        · refine And.intro ⟨⟨by omega, by omega⟩, ⟨by omega, by omega⟩⟩ (And.intro (fun _ => ?_) (fun c2 => absurd c2 (by omega)))
          refine And.intro ?_ trivial
          rw [show (k : Int) + 1 = ((k + 1 : Nat) : Int) by omega]
          refine ih (k + 1) M2 (by omega) (hF.tr hF2) hA (fun j d' hj hd' ht' => ?_)
          by_cases c : j = k
          · rw [c] at hd' ⊢
            have e : d = d' := Option.some.inj (hd.symm.trans hd')
            rw [← e]
            exact hx
          · exact hB j d' (by omega) hd' ht'
        · refine And.intro ⟨⟨by omega, by omega⟩, ⟨by omega, by omega⟩⟩ (And.intro (fun c1 => absurd c1 (by omega)) (fun _ => ?_))
          refine And.intro (Or.inl rfl) (Or.inl ⟨Or.inr ⟨rfl, fun z => hx ?_⟩, hF.tr hF2⟩)
          have g := z.2 k d (by rw [← eL]; exact hd)
          rw [← eL] at g
          have g2 := g.resolve_left ht
          exact ⟨g2.2.2.1, g2.2.2.2⟩
  have loop1 : ∀ (m k : Nat) (M : Mem), k + m = L.length → FrZ M0 M → (∀ j d, j < k → L[j]? = some d → ¬ isT W d.1 → FFt W d (chs L j)) → aw 25 [some (.inr (.inr 43)), some (.inr (.inr r)), some (.inr (.inr 6)), some (.inl (k : Int))] [] M := by
    intro m
    induction m with
    | zero =>
      intro k M hk hF hA
      have h4 : M 43 4 = (L.length : Int) := by rw [hF 43 (by omega)]; exact hS4
      refine run 60 [25, 69] _ _ _ _ ?_
      refine And.intro rfl ?_
      conv => whnf
      rw [h4]
      refine And.intro ⟨⟨by omega, by omega⟩, ⟨by omega, by omega⟩⟩ (And.intro (fun _ => ?_) (fun c2 => absurd c2 (by omega)))
      refine And.intro ?_ trivial
      exact loop2 L.length 0 M (by omega) hF (fun j d hd ht => hA j d (by have := (List.getElem?_eq_some_iff.mp hd).1; omega) hd ht) (fun j d hj => by omega)
    | succ m ih =>
      intro k M hk hF hA
      have h4 : M 43 4 = (L.length : Int) := by rw [hF 43 (by omega)]; exact hS4
      obtain ⟨d, hd, h45, hd1, hWM, hSM⟩ := at_ k M (by omega) hF
      refine run 60 [25, 69] _ _ _ _ ?_
      refine And.intro rfl ?_
      conv => whnf
      rw [h4]
      refine And.intro ⟨⟨by omega, by omega⟩, ⟨by omega, by omega⟩⟩ (And.intro (fun c1 => absurd c1 (by omega)) (fun _ => ?_))
      refine And.intro rfl (And.intro ⟨rfl, by omega, by omega⟩ ?_)
      conv => whnf
      rw [Int.toNat_natCast, h45]
      refine And.intro rfl ⟨(W, d.1), ⟨rfl, hd1, hWM⟩, ?_⟩
      rintro x M ⟨⟨rfl, ht⟩ | ⟨rfl, ht⟩, rfl⟩
      · refine And.intro ⟨⟨by omega, by omega⟩, ⟨by omega, by omega⟩⟩ (And.intro (fun _ => ?_) (fun c2 => absurd c2 (by omega)))
        refine And.intro ?_ trivial
        rw [show (k : Int) + 1 = ((k + 1 : Nat) : Int) by omega]
        refine ih (k + 1) M (by omega) hF (fun j d' hj hd' ht' => ?_)
        by_cases c : j = k
        · rw [c] at hd'
          have e : d = d' := Option.some.inj (hd.symm.trans hd')
          rw [← e] at ht'
          exact absurd ht ht'
        · exact hA j d' (by omega) hd' ht'
      · refine And.intro ⟨⟨by omega, by omega⟩, ⟨by omega, by omega⟩⟩ (And.intro (fun c1 => absurd c1 (by omega)) (fun _ => ?_))
        refine And.intro rfl (And.intro ⟨rfl, by omega, by omega⟩ ?_)
        conv => whnf
        rw [Int.toNat_natCast, h45]
        have hC := row_c hrow hSM (k := k) (d := d) (by rw [← eL]; exact hd) ht
        rw [← eL] at hC
        refine And.intro rfl ⟨(W, d, chs L k), ⟨rfl, hWM, hC⟩, ?_⟩
        rintro x M2 ⟨hx, hF2⟩
        rcases hx with ⟨rfl, hx⟩ | ⟨rfl, hx⟩
        · refine And.intro ⟨⟨by omega, by omega⟩, ⟨by omega, by omega⟩⟩ (And.intro (fun _ => ?_) (fun c2 => absurd c2 (by omega)))
          refine And.intro ?_ trivial
          rw [show (k : Int) + 1 = ((k + 1 : Nat) : Int) by omega]
          refine ih (k + 1) M2 (by omega) (hF.tr hF2.Z) (fun j d' hj hd' ht' => ?_)
          by_cases c : j = k
          · rw [c] at hd' ⊢
            have e : d = d' := Option.some.inj (hd.symm.trans hd')
            rw [← e]
            exact hx
          · exact hA j d' (by omega) hd' ht'
        · refine And.intro ⟨⟨by omega, by omega⟩, ⟨by omega, by omega⟩⟩ (And.intro (fun c1 => absurd c1 (by omega)) (fun _ => ?_))
          refine And.intro (Or.inl rfl) (Or.inl ⟨Or.inr ⟨rfl, fun z => hx ?_⟩, hF.tr hF2.Z⟩)
          have g := z.2 k d (by rw [← eL]; exact hd)
          rw [← eL] at g
          have g2 := g.resolve_left ht
          exact ⟨g2.1, g2.2.1⟩
  exact loop1 L.length 0 M1 (by omega) f1 (fun j d hj => by omega)
theorem imX2_isGoodFor {l : Launch} {Z : ZT} (hZ : ZOk Z) : Impl l Z yX2_isGoodFor cX2_isGoodFor 4 (some .boolean) 7 (c_igf (zN Z)) := mkImpl (rt := 2) (CL := [(88, some 2, (c_rdN (zN Z))), (92, none, c_order), (69, some 2, (c_isTw (zN Z))), (98, some 2, (c_ffit (zN Z))), (101, some 2, (c_wit (zN Z)))]) hZ.1 hZ.2.1 (by decide +kernel) kX2_isGoodFor fwX2 iwX2 lwX2 trivial (Nat.le_of_ble_eq_true rfl) (List.forall_mem_cons.mpr ⟨gX2_88 hZ (by decide), List.forall_mem_cons.mpr ⟨gX2_92 hZ (by decide), List.forall_mem_cons.mpr ⟨gX2_69 hZ (by decide), List.forall_mem_cons.mpr ⟨gX2_98 hZ (by decide), List.forall_mem_cons.mpr ⟨gX2_101 hZ (by decide), fun q h => absurd h List.not_mem_nil⟩⟩⟩⟩⟩) ((v_igf (zN Z)))
theorem gX7_275 {l : Launch} {Z : ZT} (hZ : ZOk Z) {d : Nat} (hd : 8 ≤ d) : CallI l Z RX7 d (275, some 2, (c_igf (zN Z))) := fun p e s m args below meth c Q cc nL x0 X => callOk_V X (imX2_isGoodFor hZ) (by decide) rfl mlX7_275 iw_yX2_isGoodFor vw_yX2_isGoodFor nw_RX2 cw_yX2_isGoodFor ⟨by decide +kernel, by decide +kernel, show (parseMethodDescriptor yX2_isGoodFor.desc).map (fun d => d.parameters.length) = some 2 by decide +kernel⟩ ⟨hd, by decide⟩
def c_checkX (n : Nn) : Call := ⟨RS × WS × Int, 2, (fun (q, W, h) vs M => vs = [.inr (.inr 0), .inl h] ∧ inR h ∧ XN n M 0 q ∧ XW n M W), .inr (fun (q, W, h) _ M x M' => CkA n q W h x ∧ XN n M' 0 (chkS n q W h).1 ∧ XW n M' (chkS n q W h).2 ∧ ∀ o, (o = 0 ∨ (38 < o ∧ o < 43) ∨ 46 < o) → M' o = M o)⟩
theorem v_checkX (n : Nn) : Ver tX7_check (fdX7, icX7, lcX7, [(100, some 1, c_isLiveX n), (267, some 2, c_isON n), (271, some 1, c_slideX n), (274, some 1, c_hasSp n), (113, some 1, c_readX n), (275, some 2, c_igf n)]) 1 3 n (c_checkX n) := by
  rintro ⟨q, W, h⟩ vs M0 ⟨rfl, ih, R, hW⟩ aw run
  have l5 : lnF n 5 = n.1 := rfl
  have bn := R.n24
  change aw 0 [some (.inr (.inr 0)), some (.inl h), none] [] M0
  refine run 90 [100] _ _ _ _ ?_
  refine And.intro rfl (And.intro rfl ⟨(0, q, h), ⟨rfl, ih, R⟩, ?_⟩)
  rintro x M0 ⟨⟨rfl, hh⟩ | ⟨rfl, hh⟩, rfl⟩
  rotate_left
  · refine And.intro ⟨⟨by omega, by omega⟩, ⟨by omega, by omega⟩⟩ (And.intro (fun c1 => absurd c1 (by omega)) (fun _ => ?_))
    refine Or.inl ?_
    show CkA n q W h (-2) ∧ XN n M0 0 (chkS n q W h).1 ∧ XW n M0 (chkS n q W h).2 ∧ ∀ o, (o = 0 ∨ (38 < o ∧ o < 43) ∨ 46 < o) → M0 o = M0 o
    rw [CkA, if_neg hh, chkS, if_neg hh]
    exact ⟨rfl, R, hW, fun _ _ => rfl⟩
  refine And.intro ⟨⟨by omega, by omega⟩, ⟨by omega, by omega⟩⟩ (And.intro (fun _ => ?_) (fun c2 => absurd c2 (by omega)))
  have eC : ∀ x, CkA n q W h x = (if rowO W then (if fitO n q h then ((x = 0 ∧ AllG W (q.2.2.2 h.toNat)) ∨ (x = 1 ∧ ¬ AllG W (q.2.2.2 h.toNat))) else x = -4) else x = 2) := fun x => if_pos hh
  have eS : chkS n q W h = (if rowO W then (sldR n q, (0, W.2)) else (q, (0, W.2))) := if_pos hh
  have fin : ∀ (x : Int) (M : Mem), CkA n q W h x → XN n M 0 (chkS n q W h).1 → XW n M W → (chkS n q W h).2 = (0, W.2) → (∀ o, (o = 0 ∨ (38 < o ∧ o < 43) ∨ 46 < o) → M o = M0 o) → aw 100 [some (.inr (.inr 0)), some (.inl h), some (.inl x)] [] M := by
    intro x M hc hN hWM e2 hF
    refine run 60 [] _ _ _ _ ?_
    refine And.intro rfl (And.intro rfl (Or.inl ?_))
    show CkA n q W h x ∧ XN n (up2 M 43 1 0) 0 (chkS n q W h).1 ∧ XW n (up2 M 43 1 0) (chkS n q W h).2 ∧ ∀ o, (o = 0 ∨ (38 < o ∧ o < 43) ∨ 46 < o) → up2 M 43 1 0 o = M0 o
    rw [e2]
    exact ⟨hc, hN.fr (fun o _ _ => up2_i (by omega)), hWM.clr, fun o ho => by rw [up2_i (by omega)]; exact hF o ho⟩
  refine And.intro rfl (And.intro rfl ⟨(W, 0), ⟨rfl, hW⟩, ?_⟩)
  rintro x M1 ⟨hF1, hx⟩
  have R1 : XN n M1 0 q := R.fr (fun o a b => hF1.1 o (by omega) (by omega) (by omega))
  have hW1 := hF1.w hW
  rcases hx with ⟨rfl, hro, hS⟩ | ⟨rfl, hro⟩
  rotate_left
  · rw [if_neg hro] at eS
    refine And.intro ⟨⟨by omega, by omega⟩, ⟨by omega, by omega⟩⟩ (And.intro (fun _ => ?_) (fun c2 => absurd c2 (by omega)))
    refine And.intro (fin 2 M1 ?_ ?_ hW1 ?_ (fun o ho => hF1.1 o (by omega) (by omega) (by omega))) trivial
    · rw [eC, if_neg hro]
    · rw [eS]
      exact R1
    · rw [eS]
  rw [if_pos hro] at eS
  refine And.intro ⟨⟨by omega, by omega⟩, ⟨by omega, by omega⟩⟩ (And.intro (fun c1 => absurd c1 (by omega)) (fun _ => ?_))
  refine And.intro rfl (And.intro rfl ⟨(0, q), ⟨rfl, R1⟩, ?_⟩)
  rintro M2 ⟨R2, hF2⟩
  obtain ⟨h, rfl, h_1, h_2⟩ := hh.nat
  have A2 := R2.at (h := h) h_1 h_2
  have e5 : M2 5 h = (nd (q.2.2.2 h) : Int) := A2.2.2.2.2.1
  have nv : nd (q.2.2.2 h) ≤ 64 := by
    have a1 : (nd (q.2.2.2 h) : Int) ≤ q.2.1 h := A2.2.2.2.2.2.1
    have a2 : q.2.1 h ≤ 64 := A2.2.2.2.2.2.2.1
    omega
  have hW2 : XW n M2 W := hW1.fr (by rw [hF2 43 (by omega)]) (hF2 44 (by omega))
  have hS2 : NdS M2 W (rowF W).2 0 := ⟨by rw [hF2 43 (by omega)]; exact hS.1, fun j d hd => by rw [hF2 45 (by omega), hF2 46 (by omega)]; exact hS.2 j d hd⟩
  have f2 : ∀ o, (o = 0 ∨ (38 < o ∧ o < 43) ∨ 46 < o) → M2 o = M0 o := fun o ho => by rw [hF2 o (by omega)]; exact hF1.1 o (by omega) (by omega) (by omega)
  refine And.intro rfl (And.intro rfl (And.intro rfl (And.intro ⟨rfl, by omega, by omega⟩ ?_)))
  conv => whnf
  rw [Int.toNat_natCast, e5]
  refine And.intro rfl ⟨(0, sldR n q, 6 * (nd (q.2.2.2 h) : Int) + 6), ⟨rfl, by omega, by omega, R2⟩, ?_⟩
  rintro x M2 ⟨hx, rfl⟩
  change (x = 1 ∧ mxE (sldR n q).1 q.2.1 (n.1 + 5) + (6 * (nd (q.2.2.2 h) : Int) + 6) ≤ (n.2.1 : Int)) ∨ (x = 0 ∧ ¬ mxE (sldR n q).1 q.2.1 (n.1 + 5) + (6 * (nd (q.2.2.2 h) : Int) + 6) ≤ (n.2.1 : Int)) at hx
  have efit : fitO n q (h : Int) ↔ mxE (sldR n q).1 q.2.1 (n.1 + 5) + (6 * (nd (q.2.2.2 h) : Int) + 6) ≤ (n.2.1 : Int) := by
    unfold fitO
    rw [Int.toNat_natCast]
    omega
  rcases hx with ⟨rfl, hx⟩ | ⟨rfl, hx⟩
  rotate_left
  · refine And.intro ⟨⟨by omega, by omega⟩, ⟨by omega, by omega⟩⟩ (And.intro (fun _ => ?_) (fun c2 => absurd c2 (by omega)))
    refine And.intro (fin (-4) M2 ?_ ?_ hW2 ?_ f2) trivial
    · rw [eC, if_pos hro, if_neg (fun z => hx (efit.mp z))]
    · rw [eS]
      exact R2
    · rw [eS]
  refine And.intro ⟨⟨by omega, by omega⟩, ⟨by omega, by omega⟩⟩ (And.intro (fun c1 => absurd c1 (by omega)) (fun _ => ?_))
  refine And.intro rfl (And.intro rfl (And.intro rfl ⟨(0, sldR n q, h, 21), ⟨rfl, by decide, h_1, h_2, R2⟩, ?_⟩))
  rintro M3 ⟨hX3, hF3⟩
  change XR M3 21 (q.2.2.2 h) at hX3
  have hS3 : NdS M3 W (rowF W).2 0 := ⟨by rw [hF3 43 (by decide) (by decide)]; exact hS2.1, fun j d hd => by rw [hF3 45 (by decide) (by decide), hF3 46 (by decide) (by decide)]; exact hS2.2 j d hd⟩
  refine And.intro rfl (And.intro rfl (And.intro rfl (And.intro rfl ⟨(W, 21, q.2.2.2 h), ⟨rfl, hW2.fx hF3 (by decide), hro.1, hS3, by decide, by decide, by decide, hX3, nv⟩, ?_⟩)))
  rintro x M4 ⟨hx4, hF4⟩
  have R4 : XN n M4 0 (sldR n q) := (R2.fx hF3 (by decide)).fr (fun o a b => hF4 o (by omega))
  have hW4 := hF4.w (hW2.fx hF3 (by decide))
  have f4 : ∀ o, (o = 0 ∨ (38 < o ∧ o < 43) ∨ 46 < o) → M4 o = M0 o := fun o ho => by rw [hF4 o (by omega), hF3 o (by omega) (by omega)]; exact f2 o ho
  rcases hx4 with ⟨rfl, hg⟩ | ⟨rfl, hg⟩
  · refine And.intro ⟨⟨by omega, by omega⟩, ⟨by omega, by omega⟩⟩ (And.intro (fun c1 => absurd c1 (by omega)) (fun _ => ?_))
    refine And.intro (fin 0 M4 ?_ ?_ hW4 ?_ f4) trivial
    · rw [eC, if_pos hro, if_pos (efit.mpr hx), Int.toNat_natCast]
      exact Or.inl ⟨rfl, hg⟩
    · rw [eS]
      exact R4
    · rw [eS]
  · refine And.intro ⟨⟨by omega, by omega⟩, ⟨by omega, by omega⟩⟩ (And.intro (fun _ => ?_) (fun c2 => absurd c2 (by omega)))
    refine And.intro (fin 1 M4 ?_ ?_ hW4 ?_ f4) trivial
    · rw [eC, if_pos hro, if_pos (efit.mpr hx), Int.toNat_natCast]
      exact Or.inr ⟨rfl, hg⟩
    · rw [eS]
      exact R4
    · rw [eS]
theorem imX7_check {l : Launch} {Z : ZT} (hZ : ZOk Z) : Impl l Z yX7_check cX7_check 3 (some .int) 29 (c_checkX (zN Z)) := mkImpl (rt := 1) (CL := [(100, some 1, (c_isLiveX (zN Z))), (267, some 2, (c_isON (zN Z))), (271, some 1, (c_slideX (zN Z))), (274, some 1, (c_hasSp (zN Z))), (113, some 1, (c_readX (zN Z))), (275, some 2, (c_igf (zN Z)))]) hZ.1 hZ.2.1 (by decide +kernel) kX7_check fwX7 iwX7 lwX7 trivial (Nat.le_of_ble_eq_true rfl) (List.forall_mem_cons.mpr ⟨gX7_100 hZ (by decide), List.forall_mem_cons.mpr ⟨gX7_267 hZ (by decide), List.forall_mem_cons.mpr ⟨gX7_271 hZ (by decide), List.forall_mem_cons.mpr ⟨gX7_274 hZ (by decide), List.forall_mem_cons.mpr ⟨gX7_113 hZ (by decide), List.forall_mem_cons.mpr ⟨gX7_275 hZ (by decide), fun q h => absurd h List.not_mem_nil⟩⟩⟩⟩⟩⟩) ((v_checkX (zN Z)))
