/-! ===== the class: calls on numbers ===== -/
/-- of the class only runs, numbers and rows have changed -/
def FP (M M' : Mem) : Prop := ∀ o, (o = 0 ∨ 38 < o) → M' o = M o
theorem FP.rf (M : Mem) : FP M M := fun _ _ => rfl
theorem FP.tr {M M1 M2 : Mem} (h : FP M M1) (h2 : FP M1 M2) : FP M M2 := fun o a => (h2 o a).trans (h o a)
theorem FXN.P {M M' : Mem} (h : FXN M M') : FP M M' := fun o a => h o (by omega)
theorem FrX.P {M M' : Mem} {r : Nat} (h : FrX M M' r) (hr : isRw r) : FP M M' := fun o a => h o (by omega) (by omega)
theorem FrK.P {M M' : Mem} (h : FrK M M') : FP M M' := fun o a => h o (by omega)
abbrev cX1 (f : Nn → RS → Int → Int × RS) (n : Nn) : Call := ⟨RS × Int, 2, (fun (q, a) vs M => vs = [.inr (.inr 0), .inl a] ∧ inR a ∧ XN n M 0 q), .inr (fun (q, a) _ M x M' => x = (f n q a).1 ∧ XN n M' 0 (f n q a).2 ∧ FP M M')⟩
abbrev cX2 (f : Nn → RS → Int → Int → Int × RS) (n : Nn) : Call := ⟨RS × Int × Int, 3, (fun (q, a, b) vs M => vs = [.inr (.inr 0), .inl a, .inl b] ∧ inR a ∧ inR b ∧ XN n M 0 q), .inr (fun (q, a, b) _ M x M' => x = (f n q a b).1 ∧ XN n M' 0 (f n q a b).2 ∧ FP M M')⟩
abbrev cX3 (f : Nn → RS → Int → Int → Int → Int × RS) (n : Nn) : Call := ⟨RS × Int × Int × Int, 4, (fun (q, a, b, c) vs M => vs = [.inr (.inr 0), .inl a, .inl b, .inl c] ∧ inR a ∧ inR b ∧ inR c ∧ XN n M 0 q), .inr (fun (q, a, b, c) _ M x M' => x = (f n q a b c).1 ∧ XN n M' 0 (f n q a b c).2 ∧ FP M M')⟩
abbrev cX4 (f : Nn → RS → Int → Int → Int → Int → Int × RS) (n : Nn) : Call := ⟨RS × Int × Int × Int × Int, 5, (fun (q, a, b, c, d) vs M => vs = [.inr (.inr 0), .inl a, .inl b, .inl c, .inl d] ∧ inR a ∧ inR b ∧ inR c ∧ inR d ∧ XN n M 0 q), .inr (fun (q, a, b, c, d) _ M x M' => x = (f n q a b c d).1 ∧ XN n M' 0 (f n q a b c d).2 ∧ FP M M')⟩
/-- a call that only looks -/
abbrev lkF1 (f : Nn → RS → Int → Int) : Nn → RS → Int → Int × RS := fun n q a => (f n q a, q)
abbrev lkF2 (f : Nn → RS → Int → Int → Int) : Nn → RS → Int → Int → Int × RS := fun n q a b => (f n q a b, q)
def c_btw (lo hi : Int) : Call := ⟨Int × Nat, 1, (fun (a, _) vs _ => vs = [.inl a] ∧ inR a), .inr (fun (a, _) _ M x M' => ((x = 1 ∧ lo ≤ a ∧ a ≤ hi) ∨ (x = 0 ∧ ¬ (lo ≤ a ∧ a ≤ hi))) ∧ M' = M)⟩
theorem v_isRoom (n : Nn) : Ver tX7_isRoom (fdX7, icX7, lcX7, []) 2 1 n (c_btw 1 64) := by
  rintro ⟨a, z⟩ vs M0 ⟨rfl, ha⟩ aw run
  unfold inR at ha
  change aw 0 [some (.inl a)] [] M0
  refine run 60 [] _ _ _ _ ?_
  refine And.intro ⟨⟨by omega, by omega⟩, ⟨by omega, by omega⟩⟩ (And.intro (fun c1 => ?_) (fun c2 => ?_))
  · exact And.intro (Or.inl rfl) (Or.inl ⟨Or.inr ⟨rfl, by omega⟩, rfl⟩)
  refine And.intro ⟨⟨by omega, by omega⟩, ⟨by omega, by omega⟩⟩ (And.intro (fun c1 => ?_) (fun c2 => ?_))
  · exact And.intro (Or.inl rfl) (Or.inl ⟨Or.inr ⟨rfl, by omega⟩, rfl⟩)
  · exact And.intro (Or.inr rfl) (Or.inl ⟨Or.inl ⟨rfl, by omega⟩, rfl⟩)
theorem imX7_isRoom {l : Launch} {Z : ZT} (hZ : ZOk Z) : Impl l Z yX7_isRoom cX7_isRoom 1 (some .boolean) 1 (c_btw 1 64) := mkImpl (rt := 2) (CL := []) hZ.1 hZ.2.1 (by decide +kernel) kX7_isRoom fwX7 iwX7 lwX7 trivial (Nat.le_of_ble_eq_true rfl) (fun q h => absurd h List.not_mem_nil) ((v_isRoom _))
theorem gX7_85 {l : Launch} {Z : ZT} (hZ : ZOk Z) {d : Nat} (hd : 2 ≤ d) : CallI l Z RX7 d (85, none, (c_btw 1 64)) := fun p e s m args below meth c Q cc nL x0 X => callOk_S X (imX7_isRoom hZ) mlX7_85 sw_yX7_isRoom nw_RX7 cw_yX7_isRoom ⟨by decide +kernel, by decide +kernel, by decide +kernel⟩ ⟨hd, by decide⟩
theorem v_isLimb (n : Nn) : Ver tX7_isLimb (fdX7, icX7, lcX7, []) 2 1 n (c_btw 0 32767) := by
  rintro ⟨a, z⟩ vs M0 ⟨rfl, ha⟩ aw run
  unfold inR at ha
  change aw 0 [some (.inl a)] [] M0
  refine run 60 [] _ _ _ _ ?_
  refine And.intro ⟨⟨by omega, by omega⟩, ⟨by omega, by omega⟩⟩ (And.intro (fun c1 => ?_) (fun c2 => ?_))
  · exact And.intro (Or.inl rfl) (Or.inl ⟨Or.inr ⟨rfl, by omega⟩, rfl⟩)
  refine And.intro ⟨⟨by omega, by omega⟩, ⟨by omega, by omega⟩⟩ (And.intro (fun c1 => ?_) (fun c2 => ?_))
  · exact And.intro (Or.inl rfl) (Or.inl ⟨Or.inr ⟨rfl, by omega⟩, rfl⟩)
  · exact And.intro (Or.inr rfl) (Or.inl ⟨Or.inl ⟨rfl, by omega⟩, rfl⟩)
theorem imX7_isLimb {l : Launch} {Z : ZT} (hZ : ZOk Z) : Impl l Z yX7_isLimb cX7_isLimb 1 (some .boolean) 1 (c_btw 0 32767) := mkImpl (rt := 2) (CL := []) hZ.1 hZ.2.1 (by decide +kernel) kX7_isLimb fwX7 iwX7 lwX7 trivial (Nat.le_of_ble_eq_true rfl) (fun q h => absurd h List.not_mem_nil) ((v_isLimb _))
theorem gX7_117 {l : Launch} {Z : ZT} (hZ : ZOk Z) {d : Nat} (hd : 2 ≤ d) : CallI l Z RX7 d (117, none, (c_btw 0 32767)) := fun p e s m args below meth c Q cc nL x0 X => callOk_S X (imX7_isLimb hZ) mlX7_117 sw_yX7_isLimb nw_RX7 cw_yX7_isLimb ⟨by decide +kernel, by decide +kernel, by decide +kernel⟩ ⟨hd, by decide⟩
theorem v_isBase (n : Nn) : Ver tX7_isBase (fdX7, icX7, lcX7, []) 2 1 n (c_btw 2 36) := by
  rintro ⟨a, z⟩ vs M0 ⟨rfl, ha⟩ aw run
  unfold inR at ha
  change aw 0 [some (.inl a)] [] M0
  refine run 60 [] _ _ _ _ ?_
  refine And.intro ⟨⟨by omega, by omega⟩, ⟨by omega, by omega⟩⟩ (And.intro (fun c1 => ?_) (fun c2 => ?_))
  · exact And.intro (Or.inl rfl) (Or.inl ⟨Or.inr ⟨rfl, by omega⟩, rfl⟩)
  refine And.intro ⟨⟨by omega, by omega⟩, ⟨by omega, by omega⟩⟩ (And.intro (fun c1 => ?_) (fun c2 => ?_))
  · exact And.intro (Or.inl rfl) (Or.inl ⟨Or.inr ⟨rfl, by omega⟩, rfl⟩)
  · exact And.intro (Or.inr rfl) (Or.inl ⟨Or.inl ⟨rfl, by omega⟩, rfl⟩)
theorem imX7_isBase {l : Launch} {Z : ZT} (hZ : ZOk Z) : Impl l Z yX7_isBase cX7_isBase 1 (some .boolean) 1 (c_btw 2 36) := mkImpl (rt := 2) (CL := []) hZ.1 hZ.2.1 (by decide +kernel) kX7_isBase fwX7 iwX7 lwX7 trivial (Nat.le_of_ble_eq_true rfl) (fun q h => absurd h List.not_mem_nil) ((v_isBase _))
theorem gX7_244 {l : Launch} {Z : ZT} (hZ : ZOk Z) {d : Nat} (hd : 2 ≤ d) : CallI l Z RX7 d (244, none, (c_btw 2 36)) := fun p e s m args below meth c Q cc nL x0 X => callOk_S X (imX7_isBase hZ) mlX7_244 sw_yX7_isBase nw_RX7 cw_yX7_isBase ⟨by decide +kernel, by decide +kernel, by decide +kernel⟩ ⟨hd, by decide⟩
theorem v_releaseX (n : Nn) : Ver tX7_release (fdX7, icX7, lcX7, [(100, some 1, c_isLiveX n), (103, some 1, c_freeX n)]) 1 2 n (cX1 relF n) := by
  rintro ⟨q, h⟩ vs M0 ⟨rfl, ih, R⟩ aw run
  change aw 0 [some (.inr (.inr 0)), some (.inl h)] [] M0
  refine run 60 [] _ _ _ _ ?_
  refine And.intro rfl (And.intro rfl ⟨(0, q, h), ⟨rfl, ih, R⟩, ?_⟩)
  rintro x M0 ⟨⟨rfl, hh⟩ | ⟨rfl, hh⟩, rfl⟩
  rotate_left
  · refine And.intro ⟨⟨by omega, by omega⟩, ⟨by omega, by omega⟩⟩ (And.intro (fun c1 => absurd c1 (by omega)) (fun _ => ?_))
    refine Or.inl ?_
    show -2 = ((relF n q h)).1 ∧ XN n M0 0 ((relF n q h)).2 ∧ FP M0 M0
    rw [show (relF n q h) = (-2, q) from if_neg hh]
    exact ⟨rfl, R, FP.rf _⟩
  refine And.intro ⟨⟨by omega, by omega⟩, ⟨by omega, by omega⟩⟩ (And.intro (fun _ => ?_) (fun c2 => absurd c2 (by omega)))
  obtain ⟨h, rfl, h_1, h_2⟩ := hh.nat
  have Ah := R.at h_1 h_2
  have L0 := Lv.of h_1 h_2
  refine And.intro rfl (And.intro rfl ⟨(q, h), ⟨rfl, h_1, R⟩, ?_⟩)
  rintro M1 ⟨R1, hF1⟩
  refine Or.inl ?_
  show 0 = ((relF n q h)).1 ∧ XN n M1 0 ((relF n q h)).2 ∧ FP M0 M1
  rw [show relF n q h = (0, (q.1, va_up q.2.1 h 0, q.2.2.1, q.2.2.2)) from if_pos L0]
  exact ⟨rfl, R1, hF1.P⟩
theorem imX7_release {l : Launch} {Z : ZT} (hZ : ZOk Z) : Impl l Z yX7_release cX7_release 2 (some .int) 2 (cX1 relF (zN Z)) := mkImpl (rt := 1) (CL := [(100, some 1, (c_isLiveX (zN Z))), (103, some 1, (c_freeX (zN Z)))]) hZ.1 hZ.2.1 (by decide +kernel) kX7_release fwX7 iwX7 lwX7 trivial (Nat.le_of_ble_eq_true rfl) (List.forall_mem_cons.mpr ⟨gX7_100 hZ (by decide), List.forall_mem_cons.mpr ⟨gX7_103 hZ (by decide), fun q h => absurd h List.not_mem_nil⟩⟩) ((v_releaseX (zN Z)))
theorem v_limbX (n : Nn) : Ver tX7_limb (fdX7, icX7, lcX7, [(100, some 1, c_isLiveX n), (123, some 1, c_limbOf n)]) 1 3 n (cX2 (lkF2 limF) n) := by
  rintro ⟨q, h, i⟩ vs M0 ⟨rfl, ih, ii, R⟩ aw run
  have ii0 := ii
  unfold inR at ii0
  change aw 0 [some (.inr (.inr 0)), some (.inl h), some (.inl i)] [] M0
  refine run 60 [] _ _ _ _ ?_
  refine And.intro rfl (And.intro rfl ⟨(0, q, h), ⟨rfl, ih, R⟩, ?_⟩)
  rintro x M0 ⟨⟨rfl, hh⟩ | ⟨rfl, hh⟩, rfl⟩
  rotate_left
  · refine And.intro ⟨⟨by omega, by omega⟩, ⟨by omega, by omega⟩⟩ (And.intro (fun c1 => absurd c1 (by omega)) (fun _ => ?_))
    refine Or.inl ⟨?_, R, FP.rf _⟩
    show -2 = limF n q h i
    rw [limF, if_neg hh]
  refine And.intro ⟨⟨by omega, by omega⟩, ⟨by omega, by omega⟩⟩ (And.intro (fun _ => ?_) (fun c2 => absurd c2 (by omega)))
  obtain ⟨h, rfl, h_1, h_2⟩ := hh.nat
  have e : limF n q h i = if i < 0 then -1 else dgZ (q.2.2.2 h) i := if_pos (Lv.of h_1 h_2)
  refine And.intro ⟨⟨by omega, by omega⟩, ⟨by omega, by omega⟩⟩ (And.intro (fun c1 => ?_) (fun c2 => ?_))
  · refine And.intro rfl (And.intro rfl ⟨(0, q, h, i), ⟨rfl, ii, h_1, h_2, R⟩, ?_⟩)
    rintro x M0 ⟨rfl, rfl⟩
    refine Or.inl ⟨?_, R, FP.rf _⟩
    show dgZ (q.2.2.2 h) i = limF n q h i
    rw [e, if_neg (by omega)]
  · refine Or.inl ⟨?_, R, FP.rf _⟩
    show -1 = limF n q h i
    rw [e, if_pos (by omega)]
theorem imX7_limb {l : Launch} {Z : ZT} (hZ : ZOk Z) : Impl l Z yX7_limb cX7_limb 3 (some .int) 2 (cX2 (lkF2 limF) (zN Z)) := mkImpl (rt := 1) (CL := [(100, some 1, (c_isLiveX (zN Z))), (123, some 1, (c_limbOf (zN Z)))]) hZ.1 hZ.2.1 (by decide +kernel) kX7_limb fwX7 iwX7 lwX7 trivial (Nat.le_of_ble_eq_true rfl) (List.forall_mem_cons.mpr ⟨gX7_100 hZ (by decide), List.forall_mem_cons.mpr ⟨gX7_123 hZ (by decide), fun q h => absurd h List.not_mem_nil⟩⟩) ((v_limbX (zN Z)))
theorem v_cellX (n : Nn) : Ver tX7_cell (fdX7, icX7, lcX7, [(157, some 1, c_limbIn n)]) 1 2 n (cX1 (lkF1 celF) n) := by
  rintro ⟨q, i⟩ vs M0 ⟨rfl, ii, R⟩ aw run
  change aw 0 [some (.inr (.inr 0)), some (.inl i)] [] M0
  refine run 60 [] _ _ _ _ ?_
  refine And.intro rfl (And.intro rfl ⟨(0, q, i), ⟨rfl, ii, R⟩, ?_⟩)
  rintro x M0 ⟨rfl, rfl⟩
  exact Or.inl ⟨rfl, R, FP.rf _⟩
theorem imX7_cell {l : Launch} {Z : ZT} (hZ : ZOk Z) : Impl l Z yX7_cell cX7_cell 2 (some .int) 2 (cX1 (lkF1 celF) (zN Z)) := mkImpl (rt := 1) (CL := [(157, some 1, (c_limbIn (zN Z)))]) hZ.1 hZ.2.1 (by decide +kernel) kX7_cell fwX7 iwX7 lwX7 trivial (Nat.le_of_ble_eq_true rfl) (List.forall_mem_cons.mpr ⟨gX7_157 hZ (by decide), fun q h => absurd h List.not_mem_nil⟩) ((v_cellX (zN Z)))
theorem v_setLimbX (n : Nn) : Ver tX7_setLimb (fdX7, icX7, lcX7, [(100, some 1, c_isLiveX n), (117, none, c_btw 0 32767), (120, some 1, c_wrL n)]) 1 4 n (cX3 stlF n) := by
  rintro ⟨q, h, i, w⟩ vs M0 ⟨rfl, ih, ii, iw, R⟩ aw run
  have l4 : lnF n 4 = n.1 + 5 := rfl
  have ii0 := ii
  unfold inR at ii0
  change aw 0 [some (.inr (.inr 0)), some (.inl h), some (.inl i), some (.inl w)] [] M0
  refine run 60 [38, 41] _ _ _ _ ?_
  refine And.intro rfl (And.intro rfl ⟨(0, q, h), ⟨rfl, ih, R⟩, ?_⟩)
  rintro x M0 ⟨⟨rfl, hh⟩ | ⟨rfl, hh⟩, rfl⟩
  rotate_left
  · refine And.intro ⟨⟨by omega, by omega⟩, ⟨by omega, by omega⟩⟩ (And.intro (fun c1 => absurd c1 (by omega)) (fun _ => ?_))
    refine Or.inl ?_
    show -2 = ((stlF n q h i w)).1 ∧ XN n M0 0 ((stlF n q h i w)).2 ∧ FP M0 M0
    rw [show (stlF n q h i w) = (-2, q) from if_neg hh]
    exact ⟨rfl, R, FP.rf _⟩
  refine And.intro ⟨⟨by omega, by omega⟩, ⟨by omega, by omega⟩⟩ (And.intro (fun _ => ?_) (fun c2 => absurd c2 (by omega)))
  obtain ⟨h, rfl, h_1, h_2⟩ := hh.nat
  have Ah := R.at h_1 h_2
  have L0 := Lv.of h_1 h_2
  have bad : ¬ (0 ≤ i ∧ i < q.2.1 h ∧ 0 ≤ w ∧ w ≤ 32767) → aw 38 [some (.inr (.inr 0)), some (.inl (h : Int)), some (.inl i), some (.inl w)] [] M0 := by
    intro hb
    refine run 60 [] _ _ _ _ ?_
    refine Or.inl ?_
    show -3 = ((stlF n q h i w)).1 ∧ XN n M0 0 ((stlF n q h i w)).2 ∧ FP M0 M0
    rw [show stlF n q h i w = (-3, q) from (if_pos L0).trans (if_neg hb)]
    exact ⟨rfl, R, FP.rf _⟩
  refine And.intro ⟨⟨by omega, by omega⟩, ⟨by omega, by omega⟩⟩ (And.intro (fun c1 => ?_) (fun c2 => ?_))
  · exact And.intro (bad (by omega)) trivial
  refine And.intro rfl (And.intro rfl (And.intro ⟨rfl, by omega, by omega⟩ ?_))
  conv => whnf
  rw [Int.toNat_natCast, Ah.1]
  refine And.intro ⟨⟨by omega, by omega⟩, ⟨by omega, by omega⟩⟩ (And.intro (fun c1 => ?_) (fun c2 => ?_))
  · exact And.intro (bad (by omega)) trivial
  refine ⟨(w, 0), ⟨rfl, iw⟩, ?_⟩
  rintro x M0 ⟨⟨rfl, hw⟩ | ⟨rfl, hw⟩, rfl⟩
  rotate_left
  · refine And.intro ⟨⟨by omega, by omega⟩, ⟨by omega, by omega⟩⟩ (And.intro (fun c1 => absurd c1 (by omega)) (fun _ => ?_))
    exact And.intro (bad (by omega)) trivial
  refine And.intro ⟨⟨by omega, by omega⟩, ⟨by omega, by omega⟩⟩ (And.intro (fun _ => ?_) (fun c2 => absurd c2 (by omega)))
  refine And.intro ?_ trivial
  obtain ⟨i, rfl⟩ : ∃ k : Nat, i = (k : Int) := ⟨i.toNat, by omega⟩
  obtain ⟨w, rfl⟩ : ∃ k : Nat, w = (k : Int) := ⟨w.toNat, by omega⟩
  refine run 60 [] _ _ _ _ ?_
  refine And.intro rfl (And.intro rfl ⟨(q, h, i, w), ⟨rfl, R, h_1, h_2, by omega, by omega⟩, ?_⟩)
  rintro x M1 ⟨rfl, R1, hF1⟩
  refine Or.inl ?_
  show (nd (stV (q.2.2.2 h) i w) : Int) = (stlF n q h i w).1 ∧ XN n M1 0 (stlF n q h i w).2 ∧ FP M0 M1
  rw [show stlF n q h i w = ((nd (stV (q.2.2.2 h) i w) : Int), (q.1, q.2.1, q.2.2.1, va_up q.2.2.2 h (stV (q.2.2.2 h) i w))) from (if_pos L0).trans (if_pos ⟨by omega, show (i : Int) < q.2.1 h by omega, by omega, by omega⟩)]
  exact ⟨rfl, R1, hF1.P⟩
theorem imX7_setLimb {l : Launch} {Z : ZT} (hZ : ZOk Z) : Impl l Z yX7_setLimb cX7_setLimb 4 (some .int) 2 (cX3 stlF (zN Z)) := mkImpl (rt := 1) (CL := [(100, some 1, (c_isLiveX (zN Z))), (117, none, (c_btw 0 32767)), (120, some 1, (c_wrL (zN Z)))]) hZ.1 hZ.2.1 (by decide +kernel) kX7_setLimb fwX7 iwX7 lwX7 trivial (Nat.le_of_ble_eq_true rfl) (List.forall_mem_cons.mpr ⟨gX7_100 hZ (by decide), List.forall_mem_cons.mpr ⟨gX7_117 hZ (by decide), List.forall_mem_cons.mpr ⟨gX7_120 hZ (by decide), fun q h => absurd h List.not_mem_nil⟩⟩⟩) ((v_setLimbX (zN Z)))
theorem v_compareX (n : Nn) : Ver tX7_compare (fdX7, icX7, lcX7, [(161, some 1, c_areLive n), (113, some 1, c_readX n), (173, none, c_order)]) 1 3 n (cX2 (lkF2 cprF) n) := by
  rintro ⟨q, a, b⟩ vs M0 ⟨rfl, ia, ib, R⟩ aw run
  change aw 0 [some (.inr (.inr 0)), some (.inl a), some (.inl b)] [] M0
  refine run 60 [] _ _ _ _ ?_
  refine And.intro rfl (And.intro rfl ⟨(0, q, a, b, b), ⟨rfl, ia, ib, ib, R⟩, ?_⟩)
  rintro x M0 ⟨⟨rfl, L⟩ | ⟨rfl, L⟩, rfl⟩
  rotate_left
  · refine And.intro ⟨⟨by omega, by omega⟩, ⟨by omega, by omega⟩⟩ (And.intro (fun c1 => absurd c1 (by omega)) (fun _ => ?_))
    refine Or.inl ⟨?_, R, FP.rf _⟩
    show -2 = cprF n q a b
    rw [cprF, if_neg (fun z => L ⟨z.1, z.2, z.2⟩)]
  refine And.intro ⟨⟨by omega, by omega⟩, ⟨by omega, by omega⟩⟩ (And.intro (fun _ => ?_) (fun c2 => absurd c2 (by omega)))
  obtain ⟨ha, hb, -⟩ := L
  obtain ⟨a, rfl, a_1, a_2⟩ := ha.nat
  obtain ⟨b, rfl, b_1, b_2⟩ := hb.nat
  have Aa := R.at a_1 a_2
  have Ab := R.at b_1 b_2
  refine And.intro rfl (And.intro rfl (And.intro rfl ⟨(0, q, a, 21), ⟨rfl, by decide, a_1, a_2, R⟩, ?_⟩))
  rintro M1 ⟨hX1, hF1⟩
  have R1 := R.fx hF1 (by decide)
  refine And.intro rfl (And.intro rfl (And.intro rfl ⟨(0, q, b, 23), ⟨rfl, by decide, b_1, b_2, R1⟩, ?_⟩))
  rintro M2 ⟨hX2, hF2⟩
  have R2 := R1.fx hF2 (by decide)
  refine And.intro rfl (And.intro rfl ⟨(21, 23, q.2.2.2 a, q.2.2.2 b), ⟨rfl, by decide, by decide, hF2.keep (by decide) (by decide) (by decide) hX1, by omega, hX2, by omega⟩, ?_⟩)
  rintro x M2 ⟨rfl, rfl⟩
  refine Or.inl ⟨?_, R2, (hF1.P (by decide)).tr (hF2.P (by decide))⟩
  show cm3 (q.2.2.2 a) (q.2.2.2 b) + 1 = cprF n q a b
  rw [show cprF n q a b = 1 + cm3 (q.2.2.2 a) (q.2.2.2 b) from if_pos ⟨Lv.of a_1 a_2, Lv.of b_1 b_2⟩]
  omega
theorem imX7_compare {l : Launch} {Z : ZT} (hZ : ZOk Z) : Impl l Z yX7_compare cX7_compare 3 (some .int) 3 (cX2 (lkF2 cprF) (zN Z)) := mkImpl (rt := 1) (CL := [(161, some 1, (c_areLive (zN Z))), (113, some 1, (c_readX (zN Z))), (173, none, c_order)]) hZ.1 hZ.2.1 (by decide +kernel) kX7_compare fwX7 iwX7 lwX7 trivial (Nat.le_of_ble_eq_true rfl) (List.forall_mem_cons.mpr ⟨gX7_161 hZ (by decide), List.forall_mem_cons.mpr ⟨gX7_113 hZ (by decide), List.forall_mem_cons.mpr ⟨gX7_173 hZ (by decide), fun q h => absurd h List.not_mem_nil⟩⟩⟩) ((v_compareX (zN Z)))
theorem XN.dr {n : Nn} {M : Mem} {q : RS} (R : XN n M 0 q) {M' : Mem} {tk : Nat} (R2 : XN n M' tk (drR n q)) : XN n M' tk q := by
  refine R2.cong (fun t ht => ⟨?_, fun _ => rfl⟩) rfl (fun _ _ _ => rfl)
  show q.2.1 t = if t < n.1 then q.2.1 t else 0
  by_cases c : t < n.1
  · rw [if_pos c]
  · rw [if_neg c]
    exact R.2.2.2.1 t (by omega) ht
theorem v_addX (n : Nn) : Ver tX7_add (fdX7, icX7, lcX7, [(161, some 1, c_areLive n), (113, some 1, c_readX n), (165, none, c_sumX), (169, some 1, c_come n)]) 1 4 n (cX3 addF n) := by
  rintro ⟨q, d, a, b⟩ vs M0 ⟨rfl, id, ia, ib, R⟩ aw run
  change aw 0 [some (.inr (.inr 0)), some (.inl d), some (.inl a), some (.inl b)] [] M0
  refine run 90 [] _ _ _ _ ?_
  refine And.intro rfl (And.intro rfl ⟨(0, q, d, a, b), ⟨rfl, id, ia, ib, R⟩, ?_⟩)
  rintro x M0 ⟨⟨rfl, L⟩ | ⟨rfl, L⟩, rfl⟩
  rotate_left
  · refine And.intro ⟨⟨by omega, by omega⟩, ⟨by omega, by omega⟩⟩ (And.intro (fun c1 => absurd c1 (by omega)) (fun _ => ?_))
    refine Or.inl ?_
    show -2 = ((addF n q d a b)).1 ∧ XN n M0 0 ((addF n q d a b)).2 ∧ FP M0 M0
    rw [show (addF n q d a b) = (-2, q) from if_neg L]
    exact ⟨rfl, R, FP.rf _⟩
  refine And.intro ⟨⟨by omega, by omega⟩, ⟨by omega, by omega⟩⟩ (And.intro (fun _ => ?_) (fun c2 => absurd c2 (by omega)))
  obtain ⟨hd, ha, hb⟩ := L
  obtain ⟨d, rfl, d_1, d_2⟩ := hd.nat
  have Ad := R.at d_1 d_2
  obtain ⟨a, rfl, a_1, a_2⟩ := ha.nat
  have Aa := R.at a_1 a_2
  obtain ⟨b, rfl, b_1, b_2⟩ := hb.nat
  have Ab := R.at b_1 b_2
  have L0 := And.intro (Lv.of d_1 d_2) (And.intro (Lv.of a_1 a_2) (Lv.of b_1 b_2))
  have e : addF n q d a b = (if 64 < nd (q.2.2.2 a + q.2.2.2 b) then (-8, q) else cmR n 0 q d (q.2.2.2 a + q.2.2.2 b)) := if_pos L0
  refine And.intro rfl (And.intro rfl (And.intro rfl ⟨(0, q, a, 21), ⟨rfl, by decide, a_1, a_2, R⟩, ?_⟩))
  rintro M1 ⟨hX1, hF1⟩
  have R1 := R.fx hF1 (by decide)
  refine And.intro rfl (And.intro rfl (And.intro rfl ⟨(0, q, b, 23), ⟨rfl, by decide, b_1, b_2, R1⟩, ?_⟩))
  rintro M2 ⟨hX2, hF2⟩
  have R2 := R1.fx hF2 (by decide)
  refine And.intro rfl (And.intro rfl (And.intro rfl ⟨(25, 21, 23, q.2.2.2 a, q.2.2.2 b), ⟨rfl, by decide, by decide, by decide, by decide, hF2.keep (by decide) (by decide) (by decide) hX1, by omega, hX2, by omega⟩, ?_⟩))
  rintro M3 ⟨hX3, hF3⟩
  have R3 := R2.fx hF3 (by decide)
  have hnd : nd (q.2.2.2 a + q.2.2.2 b) ≤ 65 := nd_le.mpr (cyA_top (n := 64) (by omega) (by omega)).2
  refine And.intro rfl (And.intro rfl (And.intro rfl ⟨(0, q, d, 25, q.2.2.2 a + q.2.2.2 b), ⟨rfl, R3, by omega, d_1, d_2, by decide, hX3, by omega⟩, ?_⟩))
  rintro x M4 ⟨h, hF4⟩
  have f4 : FP M0 M4 := (((hF1.P (by decide)).tr (hF2.P (by decide))).tr (hF3.P (by decide))).tr hF4.P
  rcases h with ⟨h6, rfl, R4⟩ | ⟨h6, rfl, R4⟩
  · refine Or.inl ?_
    show -8 = ((addF n q d a b)).1 ∧ XN n M4 0 ((addF n q d a b)).2 ∧ FP M0 M4
    rw [e, if_pos h6]
    exact ⟨rfl, R.dr R4, f4⟩
  · refine Or.inl ?_
    show (cmR n 0 q d (q.2.2.2 a + q.2.2.2 b)).1 = ((addF n q d a b)).1 ∧ XN n M4 0 ((addF n q d a b)).2 ∧ FP M0 M4
    rw [e, if_neg (by omega)]
    exact ⟨rfl, R4, f4⟩
theorem imX7_add {l : Launch} {Z : ZT} (hZ : ZOk Z) : Impl l Z yX7_add cX7_add 4 (some .int) 7 (cX3 addF (zN Z)) := mkImpl (rt := 1) (CL := [(161, some 1, (c_areLive (zN Z))), (113, some 1, (c_readX (zN Z))), (165, none, c_sumX), (169, some 1, (c_come (zN Z)))]) hZ.1 hZ.2.1 (by decide +kernel) kX7_add fwX7 iwX7 lwX7 trivial (Nat.le_of_ble_eq_true rfl) (List.forall_mem_cons.mpr ⟨gX7_161 hZ (by decide), List.forall_mem_cons.mpr ⟨gX7_113 hZ (by decide), List.forall_mem_cons.mpr ⟨gX7_165 hZ (by decide), List.forall_mem_cons.mpr ⟨gX7_169 hZ (by decide), fun q h => absurd h List.not_mem_nil⟩⟩⟩⟩) ((v_addX (zN Z)))
theorem v_subX (n : Nn) : Ver tX7_sub (fdX7, icX7, lcX7, [(161, some 1, c_areLive n), (113, some 1, c_readX n), (173, none, c_order), (177, none, c_differenceX), (169, some 1, c_come n)]) 1 4 n (cX3 subF n) := by
  rintro ⟨q, d, a, b⟩ vs M0 ⟨rfl, id, ia, ib, R⟩ aw run
  change aw 0 [some (.inr (.inr 0)), some (.inl d), some (.inl a), some (.inl b)] [] M0
  refine run 90 [] _ _ _ _ ?_
  refine And.intro rfl (And.intro rfl ⟨(0, q, d, a, b), ⟨rfl, id, ia, ib, R⟩, ?_⟩)
  rintro x M0 ⟨⟨rfl, L⟩ | ⟨rfl, L⟩, rfl⟩
  rotate_left
  · refine And.intro ⟨⟨by omega, by omega⟩, ⟨by omega, by omega⟩⟩ (And.intro (fun c1 => absurd c1 (by omega)) (fun _ => ?_))
    refine Or.inl ?_
    show -2 = ((subF n q d a b)).1 ∧ XN n M0 0 ((subF n q d a b)).2 ∧ FP M0 M0
    rw [show (subF n q d a b) = (-2, q) from if_neg L]
    exact ⟨rfl, R, FP.rf _⟩
  refine And.intro ⟨⟨by omega, by omega⟩, ⟨by omega, by omega⟩⟩ (And.intro (fun _ => ?_) (fun c2 => absurd c2 (by omega)))
  obtain ⟨hd, ha, hb⟩ := L
  obtain ⟨d, rfl, d_1, d_2⟩ := hd.nat
  have Ad := R.at d_1 d_2
  obtain ⟨a, rfl, a_1, a_2⟩ := ha.nat
  have Aa := R.at a_1 a_2
  obtain ⟨b, rfl, b_1, b_2⟩ := hb.nat
  have Ab := R.at b_1 b_2
  have L0 := And.intro (Lv.of d_1 d_2) (And.intro (Lv.of a_1 a_2) (Lv.of b_1 b_2))
  have e : subF n q d a b = (if q.2.2.2 a < q.2.2.2 b then (-5, q) else cmR n 0 q d (q.2.2.2 a - q.2.2.2 b)) := if_pos L0
  refine And.intro rfl (And.intro rfl (And.intro rfl ⟨(0, q, a, 21), ⟨rfl, by decide, a_1, a_2, R⟩, ?_⟩))
  rintro M1 ⟨hX1, hF1⟩
  have R1 := R.fx hF1 (by decide)
  refine And.intro rfl (And.intro rfl (And.intro rfl ⟨(0, q, b, 23), ⟨rfl, by decide, b_1, b_2, R1⟩, ?_⟩))
  rintro M2 ⟨hX2, hF2⟩
  have R2 := R1.fx hF2 (by decide)
  have hX1' := hF2.keep (by decide) (by decide) (by decide) hX1
  have f2 : FP M0 M2 := (hF1.P (by decide)).tr (hF2.P (by decide))
  refine And.intro rfl (And.intro rfl ⟨(21, 23, q.2.2.2 a, q.2.2.2 b), ⟨rfl, by decide, by decide, hX1', by omega, hX2, by omega⟩, ?_⟩)
  rintro x M2 ⟨rfl, rfl⟩
  have hcm := cm3_cases (q.2.2.2 a) (q.2.2.2 b)
  refine And.intro ⟨⟨by omega, by omega⟩, ⟨by omega, by omega⟩⟩ (And.intro (fun c1 => ?_) (fun c2 => ?_))
  rotate_left
  · refine Or.inl ?_
    show -5 = ((subF n q d a b)).1 ∧ XN n M2 0 ((subF n q d a b)).2 ∧ FP M0 M2
    rw [e, if_pos (by omega)]
    exact ⟨rfl, R2, f2⟩
  have hge : q.2.2.2 b ≤ q.2.2.2 a := by omega
  refine And.intro rfl (And.intro rfl (And.intro rfl ⟨(25, 21, 23, q.2.2.2 a, q.2.2.2 b), ⟨rfl, by decide, by decide, by decide, by decide, by decide, hX1', by omega, hX2, hge⟩, ?_⟩))
  rintro M3 ⟨hX3, hF3⟩
  have R3 := R2.fx hF3 (by decide)
  have hnd : nd (q.2.2.2 a - q.2.2.2 b) ≤ nd (q.2.2.2 a) := nd_mono (Nat.sub_le _ _)
  refine And.intro rfl (And.intro rfl (And.intro rfl ⟨(0, q, d, 25, q.2.2.2 a - q.2.2.2 b), ⟨rfl, R3, by omega, d_1, d_2, by decide, hX3, by omega⟩, ?_⟩))
  rintro x M4 ⟨h, hF4⟩
  have f4 : FP M0 M4 := (f2.tr (hF3.P (by decide))).tr hF4.P
  rcases h with ⟨h6, rfl, R4⟩ | ⟨h6, rfl, R4⟩
  · omega
  · refine Or.inl ?_
    show (cmR n 0 q d (q.2.2.2 a - q.2.2.2 b)).1 = ((subF n q d a b)).1 ∧ XN n M4 0 ((subF n q d a b)).2 ∧ FP M0 M4
    rw [e, if_neg (by omega)]
    exact ⟨rfl, R4, f4⟩
theorem imX7_sub {l : Launch} {Z : ZT} (hZ : ZOk Z) : Impl l Z yX7_sub cX7_sub 4 (some .int) 7 (cX3 subF (zN Z)) := mkImpl (rt := 1) (CL := [(161, some 1, (c_areLive (zN Z))), (113, some 1, (c_readX (zN Z))), (173, none, c_order), (177, none, c_differenceX), (169, some 1, (c_come (zN Z)))]) hZ.1 hZ.2.1 (by decide +kernel) kX7_sub fwX7 iwX7 lwX7 trivial (Nat.le_of_ble_eq_true rfl) (List.forall_mem_cons.mpr ⟨gX7_161 hZ (by decide), List.forall_mem_cons.mpr ⟨gX7_113 hZ (by decide), List.forall_mem_cons.mpr ⟨gX7_173 hZ (by decide), List.forall_mem_cons.mpr ⟨gX7_177 hZ (by decide), List.forall_mem_cons.mpr ⟨gX7_169 hZ (by decide), fun q h => absurd h List.not_mem_nil⟩⟩⟩⟩⟩) ((v_subX (zN Z)))
theorem v_shiftX (n : Nn) : Ver tX7_shift (fdX7, icX7, lcX7, [(161, some 1, c_areLive n), (113, some 1, c_readX n), (228, none, c_shiftDown), (232, none, c_shiftUp), (169, some 1, c_come n)]) 1 4 n (cX3 shfF n) := by
  rintro ⟨q, d, a, k⟩ vs M0 ⟨rfl, id, ia, ik, R⟩ aw run
  have ik0 := ik
  unfold inR at ik0
  change aw 0 [some (.inr (.inr 0)), some (.inl d), some (.inl a), some (.inl k)] [] M0
  refine run 90 [30, 77] _ _ _ _ ?_
  refine And.intro rfl (And.intro rfl ⟨(0, q, d, a, a), ⟨rfl, id, ia, ia, R⟩, ?_⟩)
  rintro x M0 ⟨⟨rfl, L⟩ | ⟨rfl, L⟩, rfl⟩
  rotate_left
  · refine And.intro ⟨⟨by omega, by omega⟩, ⟨by omega, by omega⟩⟩ (And.intro (fun c1 => absurd c1 (by omega)) (fun _ => ?_))
    refine Or.inl ?_
    show -2 = ((shfF n q d a k)).1 ∧ XN n M0 0 ((shfF n q d a k)).2 ∧ FP M0 M0
    rw [show (shfF n q d a k) = (-2, q) from if_neg (fun z => L ⟨z.1, z.2, z.2⟩)]
    exact ⟨rfl, R, FP.rf _⟩
  refine And.intro ⟨⟨by omega, by omega⟩, ⟨by omega, by omega⟩⟩ (And.intro (fun _ => ?_) (fun c2 => absurd c2 (by omega)))
  obtain ⟨hd, ha, -⟩ := L
  obtain ⟨d, rfl, d_1, d_2⟩ := hd.nat
  have Ad := R.at d_1 d_2
  obtain ⟨a, rfl, a_1, a_2⟩ := ha.nat
  have Aa := R.at a_1 a_2
  have L0 := And.intro (Lv.of d_1 d_2) (Lv.of a_1 a_2)
  have e : shfF n q d a k = (if -960 ≤ k ∧ k ≤ 960 then (if 64 < nd (shV (q.2.2.2 a) k) then (-8, q) else cmR n 0 q d (shV (q.2.2.2 a) k)) else (-3, q)) := if_pos L0
  have bad : ¬ (-960 ≤ k ∧ k ≤ 960) → aw 30 [some (.inr (.inr 0)), some (.inl (d : Int)), some (.inl (a : Int)), some (.inl k)] [] M0 := by
    intro hb
    refine run 60 [] _ _ _ _ ?_
    refine Or.inl ?_
    show -3 = ((shfF n q d a k)).1 ∧ XN n M0 0 ((shfF n q d a k)).2 ∧ FP M0 M0
    rw [e, if_neg hb]
    exact ⟨rfl, R, FP.rf _⟩
  refine And.intro ⟨⟨by omega, by omega⟩, ⟨by omega, by omega⟩⟩ (And.intro (fun c1 => ?_) (fun c2 => ?_))
  · exact And.intro (bad (by omega)) trivial
  refine And.intro ⟨⟨by omega, by omega⟩, ⟨by omega, by omega⟩⟩ (And.intro (fun c1 => ?_) (fun c2 => ?_))
  rotate_left
  · exact And.intro (bad (by omega)) trivial
  rw [if_pos (by omega)] at e
  have fin : ∀ M2 : Mem, XR M2 23 (shV (q.2.2.2 a) k) → nd (shV (q.2.2.2 a) k) ≤ 130 → XN n M2 0 q → FP M0 M2 → aw 77 [some (.inr (.inr 0)), some (.inl (d : Int)), some (.inl (a : Int)), some (.inl k)] [] M2 := by
    intro M2 hX2 hn R2 f2
    refine run 60 [] _ _ _ _ ?_
    refine And.intro rfl (And.intro rfl (And.intro rfl ⟨(0, q, d, 23, shV (q.2.2.2 a) k), ⟨rfl, R2, by omega, d_1, d_2, by decide, hX2, by omega⟩, ?_⟩))
    rintro x M4 ⟨h, hF4⟩
    rcases h with ⟨h6, rfl, R4⟩ | ⟨h6, rfl, R4⟩
    · refine Or.inl ?_
      show -8 = ((shfF n q d a k)).1 ∧ XN n M4 0 ((shfF n q d a k)).2 ∧ FP M0 M4
      rw [e, if_pos h6]
      exact ⟨rfl, R.dr R4, f2.tr hF4.P⟩
    · refine Or.inl ?_
      show (cmR n 0 q d (shV (q.2.2.2 a) k)).1 = ((shfF n q d a k)).1 ∧ XN n M4 0 ((shfF n q d a k)).2 ∧ FP M0 M4
      rw [e, if_neg (by omega)]
      exact ⟨rfl, R4, f2.tr hF4.P⟩
  refine And.intro rfl (And.intro rfl (And.intro rfl ⟨(0, q, a, 21), ⟨rfl, by decide, a_1, a_2, R⟩, ?_⟩))
  rintro M1 ⟨hX1, hF1⟩
  have R1 := R.fx hF1 (by decide)
  refine And.intro ⟨⟨by omega, by omega⟩, ⟨by omega, by omega⟩⟩ (And.intro (fun c1 => ?_) (fun c2 => ?_))
  · obtain ⟨s, rfl⟩ : ∃ s : Nat, k = (s : Int) := ⟨k.toNat, by omega⟩
    have es : shV (q.2.2.2 a) (s : Int) = q.2.2.2 a * 2 ^ s := by
      unfold shV
      rw [if_neg (by omega), Int.toNat_natCast]
    refine And.intro rfl (And.intro rfl ⟨(23, 21, s, q.2.2.2 a), ⟨rfl, by decide, by decide, by omega, hX1, by omega⟩, ?_⟩)
    rintro M2 ⟨hX2, -, hF2⟩
    refine And.intro ?_ trivial
    have hlt : nd (q.2.2.2 a * 2 ^ s) ≤ 128 := by
      refine nd_le.mpr ?_
      have h1 := nd_le.mp (show nd (q.2.2.2 a) ≤ 64 by omega)
      have h2 : 2 ^ s ≤ 2 ^ (15 * 64) := Nat.pow_le_pow_right (by decide) (by omega)
      rw [← nn_pw] at h2
      have h3 := Nat.mul_lt_mul_of_lt_of_le h1 h2 (nn_pos 64)
      rw [← Nat.pow_add] at h3
      exact h3
    exact fin M2 (by rw [es]; exact hX2) (by rw [es]; omega) (R1.fx hF2 (by decide)) ((hF1.P (by decide)).tr (hF2.P (by decide)))
  · obtain ⟨s, es0⟩ : ∃ s : Nat, -k = (s : Int) := ⟨(-k).toNat, by omega⟩
    have es : shV (q.2.2.2 a) k = q.2.2.2 a / 2 ^ s := by
      unfold shV
      rw [if_pos (by omega), es0, Int.toNat_natCast]
    have hn : nd (q.2.2.2 a / 2 ^ s) ≤ nd (q.2.2.2 a) := nd_mono (Nat.div_le_self _ _)
    refine And.intro rfl (And.intro rfl ?_)
    conv => whnf
    rw [es0]
    refine ⟨(23, 21, s, q.2.2.2 a), ⟨rfl, by decide, by decide, by omega, hX1, by omega⟩, ?_⟩
    rintro M2 ⟨hX2, hF2⟩
    refine And.intro ?_ trivial
    exact fin M2 (by rw [es]; exact hX2) (by rw [es]; omega) (R1.fx hF2 (by decide)) ((hF1.P (by decide)).tr (hF2.P (by decide)))
theorem imX7_shift {l : Launch} {Z : ZT} (hZ : ZOk Z) : Impl l Z yX7_shift cX7_shift 4 (some .int) 7 (cX3 shfF (zN Z)) := mkImpl (rt := 1) (CL := [(161, some 1, (c_areLive (zN Z))), (113, some 1, (c_readX (zN Z))), (228, none, c_shiftDown), (232, none, c_shiftUp), (169, some 1, (c_come (zN Z)))]) hZ.1 hZ.2.1 (by decide +kernel) kX7_shift fwX7 iwX7 lwX7 trivial (Nat.le_of_ble_eq_true rfl) (List.forall_mem_cons.mpr ⟨gX7_161 hZ (by decide), List.forall_mem_cons.mpr ⟨gX7_113 hZ (by decide), List.forall_mem_cons.mpr ⟨gX7_228 hZ (by decide), List.forall_mem_cons.mpr ⟨gX7_232 hZ (by decide), List.forall_mem_cons.mpr ⟨gX7_169 hZ (by decide), fun q h => absurd h List.not_mem_nil⟩⟩⟩⟩⟩) ((v_shiftX (zN Z)))
