/-! ===== the class: runs taken, numbers that come ===== -/
theorem XN.new {n : Nn} {M M' : Mem} {tk : Nat} {q : RS} {k : Int} (R : XN n M tk q) (h4 : tk ≤ 4) (hk : 0 < k) (hf : mxE q.1 q.2.1 (n.1 + 5) + k ≤ (n.2.1 : Int)) (hM : M' = up2 (up2 (up2 M 3 (n.1 + tk) (mxE q.1 q.2.1 (n.1 + 5))) 4 (n.1 + tk) k) 1 5 ((tk : Int) + 1)) : XN n M' (tk + 1) (va_up q.1 (n.1 + tk) (mxE q.1 q.2.1 (n.1 + 5)), va_up q.2.1 (n.1 + tk) k, q.2.2.1, q.2.2.2) := by
  obtain ⟨r1, r2, r3, r4, r5, r6, r7⟩ := R
  have z := r4 (n.1 + tk) (Nat.le_refl _) (by omega)
  have m0 := mxE_nn q.1 q.2.1 (n.1 + 5)
  have e1 : ∀ j, j ≠ 5 → M' 1 j = M 1 j := fun j hj => by rw [hM, up2_k hj, up2_i (by decide), up2_i (by decide)]
  have e2 : M' 2 = M 2 := by rw [hM, up2_i (by decide), up2_i (by decide), up2_i (by decide)]
  have e5 : M' 5 = M 5 := by rw [hM, up2_i (by decide), up2_i (by decide), up2_i (by decide)]
  have e3 : M' 3 = va_up (M 3) (n.1 + tk) (mxE q.1 q.2.1 (n.1 + 5)) := by rw [hM, up2_i (by decide), up2_i (by decide), up2_o]
  have e4 : M' 4 = va_up (M 4) (n.1 + tk) k := by rw [hM, up2_i (by decide), up2_o, up2_i (by decide)]
  refine ⟨⟨r1.1, r1.2.1, r1.2.2.1, r1.2.2.2.1, by omega⟩, ⟨by rw [e1 0 (by decide)]; exact r2.1, by rw [hM, up2_s]; omega, by rw [e1 6 (by decide)]; exact r2.2.2⟩, fun t ht => ?_, fun t a b => ?_, tk_dj r5 (by omega) z (Int.le_refl _), fun h a b => ?_, fun h a b => ?_⟩
  · show M' 4 t = va_up q.2.1 (n.1 + tk) k t ∧ 0 ≤ va_up q.2.1 (n.1 + tk) k t ∧ 0 ≤ M' 3 t ∧ M' 3 t ≤ (n.2.1 : Int) ∧ (0 < va_up q.2.1 (n.1 + tk) k t → M' 3 t = va_up q.1 (n.1 + tk) (mxE q.1 q.2.1 (n.1 + 5)) t ∧ va_up q.1 (n.1 + tk) (mxE q.1 q.2.1 (n.1 + 5)) t + va_up q.2.1 (n.1 + tk) k t ≤ (n.2.1 : Int))
    rw [e3, e4]
    by_cases c : t = n.1 + tk
    · rw [c, va_up_self, va_up_self, va_up_self, va_up_self]
      exact ⟨rfl, by omega, m0, by omega, fun _ => ⟨rfl, hf⟩⟩
    · rw [va_up_ne _ _ c, va_up_ne _ _ c, va_up_ne _ _ c, va_up_ne _ _ c]
      exact r3 t ht
  · show va_up q.2.1 (n.1 + tk) k t = 0
    rw [va_up_ne _ _ (by omega)]
    exact r4 t (by omega) b
  · change 0 < va_up q.2.1 (n.1 + tk) k h at b
    show (nd (q.2.2.2 h) : Int) ≤ va_up q.2.1 (n.1 + tk) k h ∧ va_up q.2.1 (n.1 + tk) k h ≤ 64
    rw [va_up_ne _ _ (by omega)] at b ⊢
    exact r6 h a b
  · change 0 < va_up q.2.1 (n.1 + tk) k h at b
    show M' 5 h = (nd (q.2.2.2 h) : Int) ∧ ∀ i : Nat, (i : Int) < va_up q.2.1 (n.1 + tk) k h → M' 2 ((va_up q.1 (n.1 + tk) (mxE q.1 q.2.1 (n.1 + 5)) h).toNat + i) = (dg (q.2.2.2 h) i : Int)
    rw [va_up_ne _ _ (by omega)] at b ⊢
    rw [va_up_ne _ _ (by omega), e2, e5]
    exact r7 h a b
/-- what take(k) answers, and the runs behind it -/
def TkX (n : Nn) (M M' : Mem) (tk : Nat) (q : RS) (k x : Int) : Prop := ∃ q1 : RS, ((x = ((n.1 + tk : Nat) : Int) ∧ tkR n tk q k = (1, tk + 1, q1) ∧ XN n M' (tk + 1) q1 ∧ q1.2.1 (n.1 + tk) = k) ∨ (x = -4 ∧ tkR n tk q k = (0, 0, q1) ∧ XN n M' 0 q1)) ∧ (∀ h, h < n.1 → q1.2.1 h = q.2.1 h) ∧ q1.2.2.2 = q.2.2.2 ∧ FXN M M'
def c_takeX (n : Nn) : Call := ⟨Nat × RS × Int, 2, (fun (tk, q, k) vs M => vs = [.inr (.inr 1), .inl k] ∧ XN n M tk q ∧ tk ≤ 4 ∧ 0 < k ∧ k ≤ 100000), .inr (fun (tk, q, k) _ M x M' => TkX n M M' tk q k x)⟩
theorem v_takeX (n : Nn) : Ver tX1_take (fdX1, icX1, lcX1, [(61, some 1, c_hasSp n), (64, some 1, c_slideX n), (67, some 1, c_drop n), (38, some 1, c_highE n)]) 1 3 n (c_takeX n) := by
  rintro ⟨tk, q, k⟩ vs M0 ⟨rfl, R, h4, hk1, hk2⟩ aw run
  have b := R.n24
  have e := R.hd
  have l3 : lnF n 3 = n.1 + 5 := rfl
  have l4 : lnF n 4 = n.1 + 5 := rfl
  have go : ∀ (M : Mem) (q1 : RS), XN n M tk q1 → FXN M0 M → q1.2.1 = q.2.1 → q1.2.2.2 = q.2.2.2 → (mxE q1.1 q1.2.1 (n.1 + 5) + k ≤ (n.2.1 : Int) → tkR n tk q k = (1, tk + 1, (va_up q1.1 (n.1 + tk) (mxE q1.1 q1.2.1 (n.1 + 5)), va_up q1.2.1 (n.1 + tk) k, q1.2.2.1, q1.2.2.2))) → (¬ mxE q1.1 q1.2.1 (n.1 + 5) + k ≤ (n.2.1 : Int) → tkR n tk q k = (0, 0, drR n q1)) → aw 22 [some (.inr (.inr 1)), some (.inl k), some (.inl ((n.1 + tk : Nat) : Int))] [] M := by
    intro M q1 R1 hF er ev hy hno
    have e1 := R1.hd
    refine run 60 [] _ _ _ _ ?_
    refine And.intro rfl ⟨(tk, q1, k), ⟨rfl, by omega, by omega, R1⟩, ?_⟩
    rintro x M ⟨⟨rfl, hx⟩ | ⟨rfl, hx⟩, rfl⟩
    rotate_left
    · refine And.intro ⟨⟨by omega, by omega⟩, ⟨by omega, by omega⟩⟩ (And.intro (fun _ => ?_) (fun c2 => absurd c2 (by omega)))
      refine And.intro rfl ⟨(tk, q1), ⟨rfl, R1⟩, ?_⟩
      rintro M2 ⟨R2, hF2⟩
      refine Or.inl ⟨drR n q1, Or.inr ⟨rfl, hno hx, R2⟩, fun h hh => ?_, ev, hF.tr hF2⟩
      show (if h < n.1 then q1.2.1 h else 0) = q.2.1 h
      rw [if_pos hh, er]
    · refine And.intro ⟨⟨by omega, by omega⟩, ⟨by omega, by omega⟩⟩ (And.intro (fun c1 => absurd c1 (by omega)) (fun _ => ?_))
      refine And.intro rfl (And.intro rfl ?_)
      refine And.intro ⟨⟨by omega, by omega⟩, ⟨by omega, by omega⟩⟩ (And.intro (fun _ => ?_) (fun c2 => absurd c2 (by omega)))
      refine And.intro rfl (And.intro rfl ⟨(tk, q1), ⟨rfl, R1⟩, ?_⟩)
      rintro x M ⟨rfl, rfl⟩
      refine And.intro ⟨rfl, by omega, by omega⟩ (And.intro rfl (And.intro ⟨rfl, by omega, by omega⟩ (And.intro rfl (And.intro rfl (Or.inl ?_)))))
      have h5 : up2 (up2 M 3 ((n.1 + tk : Nat) : Int).toNat (mxE q1.1 q1.2.1 (n.1 + 5))) 4 ((n.1 + tk : Nat) : Int).toNat k 1 5 = (tk : Int) := by
        rw [up2_i (by decide), up2_i (by decide)]
        exact e1.2.1
      have eM : up2 (up2 (up2 M 3 ((n.1 + tk : Nat) : Int).toNat (mxE q1.1 q1.2.1 (n.1 + 5))) 4 ((n.1 + tk : Nat) : Int).toNat k) 1 5 (up2 (up2 M 3 ((n.1 + tk : Nat) : Int).toNat (mxE q1.1 q1.2.1 (n.1 + 5))) 4 ((n.1 + tk : Nat) : Int).toNat k 1 5 + 1) = up2 (up2 (up2 M 3 (n.1 + tk) (mxE q1.1 q1.2.1 (n.1 + 5))) 4 (n.1 + tk) k) 1 5 ((tk : Int) + 1) := by
        rw [h5, Int.toNat_natCast]
      show TkX n M0 (up2 (up2 (up2 M 3 ((n.1 + tk : Nat) : Int).toNat (mxE q1.1 q1.2.1 (n.1 + 5))) 4 ((n.1 + tk : Nat) : Int).toNat k) 1 5 (up2 (up2 M 3 ((n.1 + tk : Nat) : Int).toNat (mxE q1.1 q1.2.1 (n.1 + 5))) 4 ((n.1 + tk : Nat) : Int).toNat k 1 5 + 1)) tk q k ((n.1 + tk : Nat) : Int)
      rw [eM]
      refine ⟨_, Or.inl ⟨rfl, hy hx, R1.new h4 hk1 hx rfl, va_up_self _ _ _⟩, fun h hh => ?_, ev, ((hF.tr (FXN.up (by decide) (by decide))).tr (FXN.up (by decide) (by decide))).tr (FXN.up (by decide) (by decide))⟩
      show va_up q1.2.1 (n.1 + tk) k h = q.2.1 h
      rw [va_up_ne _ _ (by omega), er]
  change aw 0 [some (.inr (.inr 1)), some (.inl k), none] [] M0
  refine run 60 [22] _ _ _ _ ?_
  refine And.intro rfl (And.intro rfl ?_)
  conv => whnf
  rw [e.1, e.2.1, show (n.1 : Int) + (tk : Int) = ((n.1 + tk : Nat) : Int) by omega]
  refine And.intro rfl ⟨(tk, q, k), ⟨rfl, by omega, by omega, R⟩, ?_⟩
  rintro x M0 ⟨⟨rfl, hx⟩ | ⟨rfl, hx⟩, rfl⟩
  · refine And.intro ⟨⟨by omega, by omega⟩, ⟨by omega, by omega⟩⟩ (And.intro (fun _ => ?_) (fun c2 => absurd c2 (by omega)))
    refine And.intro (go M0 q R (FXN.rf _) rfl rfl (fun _ => ?_) (fun z => absurd hx z)) trivial
    unfold tkR tkF
    rw [if_neg (by omega), if_pos hx]
    show (1, tk + 1, _, _, q.2.2.1 + 0, _) = _
    rw [Int.add_zero]
  · refine And.intro ⟨⟨by omega, by omega⟩, ⟨by omega, by omega⟩⟩ (And.intro (fun c1 => absurd c1 (by omega)) (fun _ => ?_))
    refine And.intro rfl ⟨(tk, q), ⟨rfl, R⟩, ?_⟩
    rintro M1 ⟨R1, hF1⟩
    refine And.intro (go M1 (sldR n q) R1 hF1 rfl rfl (fun hy => ?_) (fun hno => ?_)) trivial
    · change mxE (slP q.1 q.2.1 (n.1 + 5)) q.2.1 (n.1 + 5) + k ≤ (n.2.1 : Int) at hy
      unfold tkR tkF
      rw [if_neg (by omega), if_neg hx, if_pos hy]
      rfl
    · change ¬ mxE (slP q.1 q.2.1 (n.1 + 5)) q.2.1 (n.1 + 5) + k ≤ (n.2.1 : Int) at hno
      unfold tkR tkF
      rw [if_neg (by omega), if_neg hx, if_neg hno]
      rfl
theorem imX1_take {l : Launch} {Z : ZT} (hZ : ZOk Z) : Impl l Z yX1_take cX1_take 3 (some .int) 4 (c_takeX (zN Z)) := mkImpl (rt := 1) (CL := [(61, some 1, (c_hasSp (zN Z))), (64, some 1, (c_slideX (zN Z))), (67, some 1, (c_drop (zN Z))), (38, some 1, (c_highE (zN Z)))]) hZ.1 hZ.2.1 (by decide +kernel) kX1_take fwX1 iwX1 lwX1 trivial (Nat.le_of_ble_eq_true rfl) (List.forall_mem_cons.mpr ⟨gX1_61 hZ (by decide), List.forall_mem_cons.mpr ⟨gX1_64 hZ (by decide), List.forall_mem_cons.mpr ⟨gX1_67 hZ (by decide), List.forall_mem_cons.mpr ⟨gX1_38 hZ (by decide), fun q h => absurd h List.not_mem_nil⟩⟩⟩⟩) ((v_takeX (zN Z)))
theorem gX1_54 {l : Launch} {Z : ZT} (hZ : ZOk Z) {d : Nat} (hd : 5 ≤ d) : CallI l Z RX1 d (54, some 1, (c_takeX (zN Z))) := fun p e s m args below meth c Q cc nL x0 X => callOk_V X (imX1_take hZ) (by decide) rfl mlX1_54 iw_yX1_take vw_yX1_take nw_RX1 cw_yX1_take ⟨by decide +kernel, by decide +kernel, show (parseMethodDescriptor yX1_take.desc).map (fun d => d.parameters.length) = some 1 by decide +kernel⟩ ⟨hd, by decide⟩
/-- takeAhead(k) -/
def TaX (n : Nn) (M M' : Mem) (tk : Nat) (q : RS) (k x : Int) : Prop := ∃ (tk1 : Nat) (q1 : RS), ((x = 1 ∧ tk1 ≤ tk + 1 ∧ ∀ f, tcR n tk q k f = f tk1 q1) ∨ (x = 0 ∧ tk1 = 0 ∧ ∀ f, tcR n tk q k f = (-4, q1))) ∧ XN n M' tk1 q1 ∧ (∀ h, h < n.1 → q1.2.1 h = q.2.1 h) ∧ q1.2.2.2 = q.2.2.2 ∧ FXN M M'
def c_takeA (n : Nn) : Call := ⟨Nat × RS × Int, 2, (fun (tk, q, k) vs M => vs = [.inr (.inr 1), .inl k] ∧ XN n M tk q ∧ tk ≤ 4 ∧ -100000 ≤ k ∧ k ≤ 100000), .inr (fun (tk, q, k) _ M x M' => TaX n M M' tk q k x)⟩
theorem v_takeA (n : Nn) : Ver tX1_takeAhead (fdX1, icX1, lcX1, [(54, some 1, c_takeX n)]) 2 2 n (c_takeA n) := by
  rintro ⟨tk, q, k⟩ vs M0 ⟨rfl, R, h4, hk1, hk2⟩ aw run
  have b := R.n24
  change aw 0 [some (.inr (.inr 1)), some (.inl k)] [] M0
  refine run 60 [] _ _ _ _ ?_
  refine And.intro ⟨⟨by omega, by omega⟩, ⟨by omega, by omega⟩⟩ (And.intro (fun c1 => ?_) (fun c2 => ?_))
  · refine And.intro (Or.inr rfl) (Or.inl ⟨tk, (q.1, q.2.1, q.2.2.1 + 0, q.2.2.2), Or.inl ⟨rfl, by omega, fun f => ?_⟩, R.cong (fun t ht => ⟨rfl, fun _ => rfl⟩) (Int.add_zero _) (fun _ _ _ => rfl), fun _ _ => rfl, rfl, FXN.rf _⟩)
    unfold tcR tkR tkF
    rw [if_pos (show k ≤ 0 by omega)]
    rfl
  · refine And.intro rfl ⟨(tk, q, k), ⟨rfl, R, h4, by omega, by omega⟩, ?_⟩
    rintro x M1 ⟨q1, ho, hr, hv, hF⟩
    rcases ho with ⟨rfl, ht, R1, -⟩ | ⟨rfl, ht, R1⟩
    · refine And.intro ⟨⟨by omega, by omega⟩, ⟨by omega, by omega⟩⟩ (And.intro (fun c1 => absurd c1 (by omega)) (fun _ => ?_))
      refine And.intro (Or.inr rfl) (Or.inl ⟨tk + 1, q1, Or.inl ⟨rfl, Nat.le_refl _, fun f => ?_⟩, R1, hr, hv, hF⟩)
      unfold tcR
      rw [ht]
      rfl
    · refine And.intro ⟨⟨by omega, by omega⟩, ⟨by omega, by omega⟩⟩ (And.intro (fun _ => ?_) (fun c2 => absurd c2 (by omega)))
      refine And.intro (Or.inl rfl) (Or.inl ⟨0, q1, Or.inr ⟨rfl, rfl, fun f => ?_⟩, R1, hr, hv, hF⟩)
      unfold tcR
      rw [ht]
      rfl
theorem imX1_takeAhead {l : Launch} {Z : ZT} (hZ : ZOk Z) : Impl l Z yX1_takeAhead cX1_takeAhead 2 (some .boolean) 5 (c_takeA (zN Z)) := mkImpl (rt := 2) (CL := [(54, some 1, (c_takeX (zN Z)))]) hZ.1 hZ.2.1 (by decide +kernel) kX1_takeAhead fwX1 iwX1 lwX1 trivial (Nat.le_of_ble_eq_true rfl) (List.forall_mem_cons.mpr ⟨gX1_54 hZ (by decide), fun q h => absurd h List.not_mem_nil⟩) ((v_takeA (zN Z)))
theorem gX7_180 {l : Launch} {Z : ZT} (hZ : ZOk Z) {d : Nat} (hd : 6 ≤ d) : CallI l Z RX7 d (180, some 1, (c_takeA (zN Z))) := fun p e s m args below meth c Q cc nL x0 X => callOk_V X (imX1_takeAhead hZ) (by decide) rfl mlX7_180 iw_yX1_takeAhead vw_yX1_takeAhead nw_RX1 cw_yX1_takeAhead ⟨by decide +kernel, by decide +kernel, show (parseMethodDescriptor yX1_takeAhead.desc).map (fun d => d.parameters.length) = some 1 by decide +kernel⟩ ⟨hd, by decide⟩
def c_freeX (n : Nn) : Call := ⟨RS × Nat, 2, (fun (q, h) vs M => vs = [.inr (.inr 1), .inl (h : Int)] ∧ h < n.1 ∧ XN n M 0 q), .inl (fun (q, h) _ M M' => XN n M' 0 (q.1, va_up q.2.1 h 0, q.2.2.1, q.2.2.2) ∧ FXN M M')⟩
theorem v_freeX (n : Nn) : Ver tX1_free (fdX1, icX1, lcX1, []) 0 2 n (c_freeX n) := by
  rintro ⟨q, h⟩ vs M0 ⟨rfl, h1, R⟩ aw run
  have l4 : lnF n 4 = n.1 + 5 := rfl
  have l5 : lnF n 5 = n.1 := rfl
  change aw 0 [some (.inr (.inr 1)), some (.inl (h : Int))] [] M0
  refine run 60 [] _ _ _ _ ?_
  refine And.intro rfl (And.intro ⟨rfl, by omega, by omega⟩ (And.intro rfl (And.intro ⟨rfl, by omega, by omega⟩ (Or.inl ?_))))
  show XN n (up2 (up2 M0 4 (h : Int).toNat 0) 5 (h : Int).toNat 0) 0 (q.1, va_up q.2.1 h 0, q.2.2.1, q.2.2.2) ∧ FXN M0 (up2 (up2 M0 4 (h : Int).toNat 0) 5 (h : Int).toNat 0)
  rw [Int.toNat_natCast]
  refine ⟨?_, (FXN.up (by decide) (by decide)).tr (FXN.up (by decide) (by decide))⟩
  obtain ⟨r1, r2, r3, r4, r5, r6, r7⟩ := R
  have e1 : up2 (up2 M0 4 h 0) 5 h 0 1 = M0 1 := by rw [up2_i (by decide), up2_i (by decide)]
  have e2 : up2 (up2 M0 4 h 0) 5 h 0 2 = M0 2 := by rw [up2_i (by decide), up2_i (by decide)]
  have e3 : up2 (up2 M0 4 h 0) 5 h 0 3 = M0 3 := by rw [up2_i (by decide), up2_i (by decide)]
  have e4 : up2 (up2 M0 4 h 0) 5 h 0 4 = va_up (M0 4) h 0 := by rw [up2_i (by decide), up2_o]
  have e5 : up2 (up2 M0 4 h 0) 5 h 0 5 = va_up (M0 5) h 0 := by rw [up2_o, up2_i (by decide)]
  generalize up2 (up2 M0 4 h 0) 5 h 0 = M at *
  refine ⟨r1, by rw [e1]; exact r2, fun t ht => ?_, fun t a b => ?_, fun t u ht hu hne a b => ?_, fun t a b => ?_, fun t a b => ?_⟩
  · show M 4 t = va_up q.2.1 h 0 t ∧ 0 ≤ va_up q.2.1 h 0 t ∧ 0 ≤ M 3 t ∧ M 3 t ≤ (n.2.1 : Int) ∧ (0 < va_up q.2.1 h 0 t → M 3 t = q.1 t ∧ q.1 t + va_up q.2.1 h 0 t ≤ (n.2.1 : Int))
    have r := r3 t ht
    rw [e3, e4]
    by_cases c : t = h
    · rw [c, va_up_self, va_up_self]
      rw [c] at r
      exact ⟨rfl, by omega, r.2.2.1, r.2.2.2.1, fun z => by omega⟩
    · rw [va_up_ne _ _ c, va_up_ne _ _ c]
      exact r
  · show va_up q.2.1 h 0 t = 0
    by_cases c : t = h
    · rw [c, va_up_self]
    · rw [va_up_ne _ _ c]
      exact r4 t a b
  · change 0 < va_up q.2.1 h 0 t at a
    change 0 < va_up q.2.1 h 0 u at b
    show q.1 t + va_up q.2.1 h 0 t ≤ q.1 u ∨ q.1 u + va_up q.2.1 h 0 u ≤ q.1 t
    have c1 : t ≠ h := fun z => by rw [z, va_up_self] at a; omega
    have c2 : u ≠ h := fun z => by rw [z, va_up_self] at b; omega
    rw [va_up_ne _ _ c1] at a ⊢
    rw [va_up_ne _ _ c2] at b ⊢
    exact r5 t u ht hu hne a b
  · change 0 < va_up q.2.1 h 0 t at b
    show (nd (q.2.2.2 t) : Int) ≤ va_up q.2.1 h 0 t ∧ va_up q.2.1 h 0 t ≤ 64
    have c1 : t ≠ h := fun z => by rw [z, va_up_self] at b; omega
    rw [va_up_ne _ _ c1] at b ⊢
    exact r6 t a b
  · change 0 < va_up q.2.1 h 0 t at b
    have c1 : t ≠ h := fun z => by rw [z, va_up_self] at b; omega
    show M 5 t = (nd (q.2.2.2 t) : Int) ∧ ∀ i : Nat, (i : Int) < va_up q.2.1 h 0 t → M 2 ((q.1 t).toNat + i) = (dg (q.2.2.2 t) i : Int)
    rw [va_up_ne _ _ c1] at b ⊢
    rw [e5, e2, va_up_ne _ _ c1]
    exact r7 t a b
theorem imX1_free {l : Launch} {Z : ZT} (hZ : ZOk Z) : Impl l Z yX1_free cX1_free 2 none 1 (c_freeX (zN Z)) := mkImpl (rt := 0) (CL := []) hZ.1 hZ.2.1 (by decide +kernel) kX1_free fwX1 iwX1 lwX1 trivial (Nat.le_of_ble_eq_true rfl) (fun q h => absurd h List.not_mem_nil) ((v_freeX (zN Z)))
theorem gX7_103 {l : Launch} {Z : ZT} (hZ : ZOk Z) {d : Nat} (hd : 2 ≤ d) : CallI l Z RX7 d (103, some 1, (c_freeX (zN Z))) := fun p e s m args below meth c Q cc nL x0 X => callOk_V X (imX1_free hZ) (by decide) rfl mlX7_103 iw_yX1_free vw_yX1_free nw_RX1 cw_yX1_free ⟨by decide +kernel, by decide +kernel, show (parseMethodDescriptor yX1_free.desc).map (fun d => d.parameters.length) = some 1 by decide +kernel⟩ ⟨hd, by decide⟩
/-- handle h takes over a run, and a number is written there -/
def stlR (q : RS) (h run v : Nat) : RS := (va_up q.1 h (q.1 run), (fun t => if t = h then q.2.1 run else if t = run then 0 else q.2.1 t), q.2.2.1, va_up q.2.2.2 h v)
theorem XN.stl {n : Nn} {M M' : Mem} {tk h run v : Nat} {q : RS} (R : XN n M tk q) (h1 : h < n.1) (hr : run < n.1 + 5) (hr0 : 0 < q.2.1 run) (hr6 : q.2.1 run ≤ 64) (ho : run = h ∨ n.1 ≤ run) (hv : (nd v : Int) ≤ q.2.1 run) (e1 : M' 1 = M 1) (e4 : ∀ t, t < n.1 + 5 → M' 4 t = (stlR q h run v).2.1 t) (e3 : M' 3 h = q.1 run) (e3n : ∀ t, t < n.1 + 5 → t ≠ h → M' 3 t = M 3 t) (e5 : M' 5 h = (nd v : Int)) (e5n : ∀ t, t ≠ h → M' 5 t = M 5 t) (e2 : ∀ i : Nat, (i : Int) < q.2.1 run → M' 2 ((q.1 run).toNat + i) = (dg v i : Int)) (e2n : ∀ j : Nat, ((j : Int) < q.1 run ∨ q.1 run + q.2.1 run ≤ (j : Int)) → M' 2 j = M 2 j) : XN n M' tk (stlR q h run v) := by
  have rr := R.run hr
  have rp := rr.2.2.2.2.2 hr0
  have RR := R
  obtain ⟨r1, r2, r3, r4, r5, r6, r7⟩ := R
  have er : ∀ t, (stlR q h run v).2.1 t = if t = h then q.2.1 run else if t = run then 0 else q.2.1 t := fun t => rfl
  have ep : ∀ t, (stlR q h run v).1 t = va_up q.1 h (q.1 run) t := fun t => rfl
  have ev : ∀ t, (stlR q h run v).2.2.2 t = va_up q.2.2.2 h v t := fun t => rfl
  refine ⟨r1, by rw [e1]; exact r2, fun t ht => ?_, fun t a b => ?_, fun t u ht hu hne a b => ?_, fun t a b => ?_, fun t a b => ?_⟩
  · have r := r3 t ht
    rw [e4 t ht, er, ep]
    by_cases c : t = h
    · rw [if_pos c, c, va_up_self, e3]
      exact ⟨rfl, by omega, by omega, by omega, fun _ => ⟨rfl, rp.2⟩⟩
    · rw [if_neg c, va_up_ne _ _ c, e3n t ht c]
      by_cases d : t = run
      · rw [if_pos d]
        exact ⟨rfl, by omega, r.2.2.1, r.2.2.2.1, fun z => by omega⟩
      · rw [if_neg d]
        exact ⟨rfl, r.2⟩
  · rw [er, if_neg (by omega)]
    by_cases d : t = run
    · rw [if_pos d]
    · rw [if_neg d]
      exact r4 t a b
  · rw [er] at a b
    rw [er, er, ep, ep]
    by_cases c : t = h
    · by_cases d : u = h
      · exact absurd (c.trans d.symm) hne
      · rw [if_pos c] at a ⊢
        rw [if_neg d] at b ⊢
        by_cases g : u = run
        · rw [if_pos g] at b
          omega
        · rw [if_neg g] at b ⊢
          rw [c, va_up_self, va_up_ne _ _ d]
          exact r5 run u hr hu (fun z => g z.symm) a b
    · by_cases d : u = h
      · rw [if_neg c] at a ⊢
        rw [if_pos d] at b ⊢
        by_cases g : t = run
        · rw [if_pos g] at a
          omega
        · rw [if_neg g] at a ⊢
          rw [d, va_up_self, va_up_ne _ _ c]
          exact r5 t run ht hr g a b
      · rw [if_neg c] at a ⊢
        rw [if_neg d] at b ⊢
        by_cases g : t = run
        · rw [if_pos g] at a
          omega
        · by_cases g2 : u = run
          · rw [if_pos g2] at b
            omega
          · rw [if_neg g] at a ⊢
            rw [if_neg g2] at b ⊢
            rw [va_up_ne _ _ c, va_up_ne _ _ d]
            exact r5 t u ht hu hne a b
  · rw [er] at b
    rw [er, ev]
    by_cases c : t = h
    · rw [if_pos c, c, va_up_self]
      exact ⟨hv, hr6⟩
    · rw [if_neg c] at b ⊢
      rw [va_up_ne _ _ c]
      by_cases d : t = run
      · rw [if_pos d] at b
        omega
      · rw [if_neg d] at b ⊢
        exact r6 t a b
  · rw [er] at b
    rw [er, ev, ep]
    by_cases c : t = h
    · rw [if_pos c, c, va_up_self, va_up_self]
      exact ⟨e5, e2⟩
    · rw [if_neg c] at b ⊢
      rw [va_up_ne _ _ c, va_up_ne _ _ c, e5n t c]
      by_cases d : t = run
      · rw [if_pos d] at b
        omega
      · rw [if_neg d] at b ⊢
        have A := RR.at a b
        refine ⟨A.2.2.2.2.1, fun i hi => ?_⟩
        rw [e2n _ ?_]
        · exact A.2.2.2.2.2.2.2 i hi
        · rcases r5 t run (by omega) hr d b hr0 with z | z <;> omega
def c_settle (n : Nn) : Call := ⟨Nat × RS × Nat × Nat × Nat × Nat, 4, (fun (tk, q, h, run, r, v) vs M => vs = [.inr (.inr 1), .inl (h : Int), .inl (run : Int), .inr (.inr r)] ∧ XN n M tk q ∧ isRw r ∧ XR M r v ∧ h < n.1 ∧ run < n.1 + 5 ∧ 0 < q.2.1 run ∧ q.2.1 run ≤ 64 ∧ (run = h ∨ n.1 ≤ run) ∧ (nd v : Int) ≤ q.2.1 run), .inl (fun (tk, q, h, run, _, v) _ M M' => XN n M' tk (stlR q h run v) ∧ FXN M M')⟩
theorem v_settle (n : Nn) : Ver tX1_settle (fdX1, icX1, lcX1, [(83, none, c_min), (45, none, cpC n), (86, none, c_fill n)]) 0 5 n (c_settle n) := by
  rintro ⟨tk, q, h, run_, r, v⟩ vs M0 ⟨rfl, R, hr, hX, h1, hu, hu0, hu6, ho, hv⟩ aw run
  have b := R.n24
  have l2 : lnF n 2 = n.2.1 := rfl
  have l3 : lnF n 3 = n.1 + 5 := rfl
  have l4 : lnF n 4 = n.1 + 5 := rfl
  have l5 : lnF n 5 = n.1 := rfl
  have hl := hr.ln n
  have rr := R.run hu
  have rp := rr.2.2.2.2.2 hu0
  have fin : ∀ M : Mem, FXN M0 M → M 1 = M0 1 → M 2 = M0 2 → M 5 = M0 5 → (∀ t, t < n.1 + 5 → M 4 t = (stlR q h run_ v).2.1 t) → M 3 h = q.1 run_ → (∀ t, t < n.1 + 5 → t ≠ h → M 3 t = M0 3 t) → aw 36 [some (.inr (.inr 1)), some (.inl (h : Int)), some (.inl (run_ : Int)), some (.inr (.inr r)), none] [] M := by
    intro M hF k1 k2 k5 k4 k3 k3n
    have hX1 : M r 1 = (nd v : Int) := (hF.keep hr hX).1
    have k4h : M 4 h = q.2.1 run_ := by
      rw [k4 h (by omega)]
      show (if h = h then q.2.1 run_ else _) = _
      rw [if_pos rfl]
    refine run 80 [] _ _ _ _ ?_
    refine And.intro hr.kd (And.intro rfl (And.intro ⟨rfl, by omega, by omega⟩ ?_))
    conv => whnf
    rw [Int.toNat_natCast, hX1, k4h]
    refine ⟨((nd v : Int), q.2.1 run_), ⟨rfl, ⟨by omega, by omega⟩, ⟨by omega, by omega⟩⟩, ?_⟩
    rintro x M ⟨rfl, rfl⟩
    rw [show min (nd v : Int) (q.2.1 run_) = (nd v : Int) by omega]
    refine And.intro hr.kd (And.intro rfl (And.intro rfl (And.intro ⟨rfl, by omega, by omega⟩ ?_)))
    conv => whnf
    rw [Int.toNat_natCast, k3]
    refine ⟨(), ⟨hr.ka, rfl, by omega, by omega, by omega, by omega, by omega⟩, ?_⟩
    rintro M1 hM1
    change M1 = va_up M 2 (va_cpy (M (r + 1)) (M 2) ((0 : Int)).toNat (q.1 run_).toNat ((nd v : Int)).toNat) at hM1
    have f1 : ∀ o, o ≠ 2 → M1 o = M o := fun o h => by rw [hM1, va_up_ne _ _ h]
    refine And.intro rfl (And.intro rfl (And.intro ⟨rfl, by omega, by omega⟩ (And.intro rfl (And.intro ⟨rfl, by omega, by omega⟩ (And.intro rfl (And.intro ⟨rfl, by omega, by omega⟩ ?_))))))
    conv => whnf
    rw [Int.toNat_natCast, f1 3 (by decide), f1 4 (by decide), k3, k4h, show q.1 run_ + (nd v : Int) = (((q.1 run_).toNat + nd v : Nat) : Int) by omega, show q.1 run_ + q.2.1 run_ = (((q.1 run_).toNat + (q.2.1 run_).toNat : Nat) : Int) by omega]
    refine ⟨(2, (q.1 run_).toNat + nd v, (q.1 run_).toNat + (q.2.1 run_).toNat, 0), ⟨rfl, rfl, by omega, by omega, by omega⟩, ?_⟩
    rintro M2 hM2
    change M2 = va_up M1 2 (fun i => if (q.1 run_).toNat + nd v ≤ i ∧ i < (q.1 run_).toNat + (q.2.1 run_).toNat then 0 else M1 2 i) at hM2
    have f2 : ∀ o, o ≠ 2 → M2 o = M o := fun o h => by rw [hM2, va_up_ne _ _ h, f1 o h]
    refine And.intro rfl (And.intro ⟨rfl, by omega, by omega⟩ (Or.inl ?_))
    show XN n (up2 M2 5 (h : Int).toNat (nd v : Int)) tk (stlR q h run_ v) ∧ FXN M0 (up2 M2 5 (h : Int).toNat (nd v : Int))
    rw [Int.toNat_natCast]
    have x2 : M2 2 = (fun i => if (q.1 run_).toNat + nd v ≤ i ∧ i < (q.1 run_).toNat + (q.2.1 run_).toNat then 0 else M1 2 i) := by rw [hM2, va_up_self]
    have x1 : M1 2 = va_cpy (M (r + 1)) (M 2) 0 (q.1 run_).toNat (nd v) := by rw [hM1, va_up_self]; rfl
    have hD : ∀ i, i < nd v → M (r + 1) i = (dg v i : Int) := (hF.keep hr hX).2
    refine ⟨R.stl h1 hu hu0 hu6 ho hv ?_ (fun t ht => ?_) ?_ (fun t ht hne => ?_) up2_s (fun t hne => ?_) (fun i hi => ?_) (fun j hj => ?_), fun o ho => ?_⟩
    · rw [up2_i (by decide), f2 1 (by decide), k1]
    · rw [up2_i (by decide), f2 4 (by decide)]
      exact k4 t ht
    · rw [up2_i (by decide), f2 3 (by decide)]
      exact k3
    · rw [up2_i (by decide), f2 3 (by decide)]
      exact k3n t ht hne
    · rw [up2_k hne, f2 5 (by decide), k5]
    · rw [up2_i (by decide), x2]
      show (if (q.1 run_).toNat + nd v ≤ (q.1 run_).toNat + i ∧ (q.1 run_).toNat + i < (q.1 run_).toNat + (q.2.1 run_).toNat then 0 else M1 2 ((q.1 run_).toNat + i)) = _
      by_cases c : nd v ≤ i
      · rw [if_pos (by omega), dg_z c]
        rfl
      · rw [if_neg (by omega), x1, cpy_in (by omega) (by omega), show 0 + ((q.1 run_).toNat + i - (q.1 run_).toNat) = i by omega]
        exact hD i (by omega)
    · rw [up2_i (by decide), x2]
      show (if (q.1 run_).toNat + nd v ≤ j ∧ j < (q.1 run_).toNat + (q.2.1 run_).toNat then 0 else M1 2 j) = _
      rw [if_neg (by omega), x1, cpy_out (by omega), k2]
    · rw [up2_i (by omega), f2 o (by omega)]
      exact hF o ho
  have lh : (h : Int) < (n.1 : Int) := by omega
  change aw 0 [some (.inr (.inr 1)), some (.inl (h : Int)), some (.inl (run_ : Int)), some (.inr (.inr r)), none] [] M0
  refine run 60 [36] _ _ _ _ ?_
  by_cases c : run_ = h
  · refine And.intro ⟨⟨by omega, by omega⟩, ⟨by omega, by omega⟩⟩ (And.intro (fun _ => ?_) (fun c2 => absurd c2 (by omega)))
    refine And.intro (fin M0 (FXN.rf _) rfl rfl rfl (fun t ht => ?_) ?_ (fun _ _ _ => rfl)) trivial
    · have r := R.run ht
      show M0 4 t = if t = h then q.2.1 run_ else if t = run_ then 0 else q.2.1 t
      rw [r.1]
      by_cases d : t = h
      · rw [if_pos d, c, d]
      · rw [if_neg d, if_neg (by omega)]
    · rw [← c]
      exact rp.1
  · refine And.intro ⟨⟨by omega, by omega⟩, ⟨by omega, by omega⟩⟩ (And.intro (fun c1 => absurd c1 (by omega)) (fun _ => ?_))
    refine And.intro rfl (And.intro rfl (And.intro ⟨rfl, by omega, by omega⟩ (And.intro ⟨rfl, by omega, by omega⟩ ?_)))
    refine And.intro rfl (And.intro rfl (And.intro ⟨rfl, by omega, by omega⟩ (And.intro ⟨rfl, by omega, by omega⟩ ?_)))
    refine And.intro rfl (And.intro ⟨rfl, by omega, by omega⟩ (And.intro ?_ trivial))
    rw [Int.toNat_natCast, Int.toNat_natCast, rp.1, up2_i (show 4 ≠ 3 by decide), rr.1]
    refine fin _ (((FXN.up (by decide) (by decide)).tr (FXN.up (by decide) (by decide))).tr (FXN.up (by decide) (by decide))) ?_ ?_ ?_ (fun t ht => ?_) ?_ (fun t ht hne => ?_)
    · rw [up2_i (by decide), up2_i (by decide), up2_i (by decide)]
    · rw [up2_i (by decide), up2_i (by decide), up2_i (by decide)]
    · rw [up2_i (by decide), up2_i (by decide), up2_i (by decide)]
    · have r := R.run ht
      show _ = if t = h then q.2.1 run_ else if t = run_ then 0 else q.2.1 t
      by_cases d : t = run_
      · rw [d, up2_s, if_neg c, if_pos rfl]
      · rw [up2_k d]
        by_cases g : t = h
        · rw [g, up2_s, if_pos rfl]
        · rw [up2_k g, up2_i (by decide), if_neg g, if_neg d]
          exact r.1
    · rw [up2_i (by decide), up2_i (by decide), up2_s]
    · rw [up2_i (by decide), up2_i (by decide), up2_k hne]
theorem imX1_settle {l : Launch} {Z : ZT} (hZ : ZOk Z) : Impl l Z yX1_settle cX1_settle 5 none 3 (c_settle (zN Z)) := mkImpl (rt := 0) (CL := [(83, none, c_min), (45, none, cpC (zN Z)), (86, none, (c_fill (zN Z)))]) hZ.1 hZ.2.1 (by decide +kernel) kX1_settle fwX1 iwX1 lwX1 trivial (Nat.le_of_ble_eq_true rfl) (List.forall_mem_cons.mpr ⟨gX1_83 hZ (by decide), List.forall_mem_cons.mpr ⟨gcp_X1 hZ (by decide), List.forall_mem_cons.mpr ⟨gX1_86 hZ (by decide), fun q h => absurd h List.not_mem_nil⟩⟩⟩) ((v_settle (zN Z)))
theorem gX1_76 {l : Launch} {Z : ZT} (hZ : ZOk Z) {d : Nat} (hd : 4 ≤ d) : CallI l Z RX1 d (76, some 1, (c_settle (zN Z))) := fun p e s m args below meth c Q cc nL x0 X => callOk_V X (imX1_settle hZ) (by decide) rfl mlX1_76 iw_yX1_settle vw_yX1_settle nw_RX1 cw_yX1_settle ⟨by decide +kernel, by decide +kernel, show (parseMethodDescriptor yX1_settle.desc).map (fun d => d.parameters.length) = some 3 by decide +kernel⟩ ⟨hd, by decide⟩
theorem gX7_208 {l : Launch} {Z : ZT} (hZ : ZOk Z) {d : Nat} (hd : 4 ≤ d) : CallI l Z RX7 d (208, some 1, (c_settle (zN Z))) := fun p e s m args below meth c Q cc nL x0 X => callOk_V X (imX1_settle hZ) (by decide) rfl mlX7_208 iw_yX1_settle vw_yX1_settle nw_RX1 cw_yX1_settle ⟨by decide +kernel, by decide +kernel, show (parseMethodDescriptor yX1_settle.desc).map (fun d => d.parameters.length) = some 3 by decide +kernel⟩ ⟨hd, by decide⟩
