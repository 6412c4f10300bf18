/-! ===== the reference: comes, walked ===== -/
set_option maxHeartbeats 4000000 in
theorem v_comes (n0 : Nn) : Ver tX8_comes (fdX8, icX8, lcX8, [(131, some 8, c_take), (135, some 8, c_gets), (101, some 8, c_copy)]) 1 4 n0 c_comes := by
  rintro ⟨n, tk, pl, rm, a, d, v⟩ vs M0 ⟨rfl, hA, htk, hd, hl, ha, had, hv, hnv⟩ aw run
  have l52 : lnF n0 52 = 37 := rfl
  have l54 : lnF n0 54 = 24 := rfl
  have hn24 := hA.1.2.1
  have hv1 := hv.1
  have hrd : M0 54 d = rm d := by
    rw [← (hA.2.2 d (by omega)).1]
    unfold rmM
    rw [if_pos hd, if_pos hl]
  have hb := hA.1.2.2.2.2.2.2.2.2.2 d (by omega) (fun _ => hl)
  rw [(hA.2.2 d (by omega)).1] at hb
  have hC := hA.1.2.2.2.1
  have hb10 := hA.1.2.2.2.2.2.2.1
  -- the copy, and the answer
  have fin : ∀ (M : Mem) (x : Int) (pl2 rm2 : Nat → Int) (s : Int), comF n.1 n.2.1 tk d pl rm (nd v) = ((nd v : Int), pl2, rm2, s) → AgM n (up2 M 50 10 0) pl2 rm2 0 → MH (up2 M 50 10 0) a v → M 50 11 = M0 50 11 + s → FrC M0 (up2 M 50 10 0) d → aw 40 [some (.inr (.inr 50)), some (.inl (a : Int)), some (.inl (d : Int)), some (.inl (nd v : Int))] [] M := by
    intro M x pl2 rm2 s hcom hAg hMa hs hF
    refine run 60 [] _ _ _ _ ?_
    refine And.intro rfl (And.intro rfl ?_)
    refine ⟨(a, d, v), ⟨rfl, ha, by omega, hMa, by omega⟩, ?_⟩
    rintro M2 ⟨hMd, hF2⟩
    refine Or.inl ?_
    show (nd v : Int) = (comF n.1 n.2.1 tk d pl rm (nd v)).1 ∧ AgM n M2 (comF n.1 n.2.1 tk d pl rm (nd v)).2.1 (comF n.1 n.2.1 tk d pl rm (nd v)).2.2.1 0 ∧ M2 50 11 = M0 50 11 + (comF n.1 n.2.1 tk d pl rm (nd v)).2.2.2 ∧ FrC M0 M2 d ∧ _ ∧ _
    rw [hcom]
    refine ⟨rfl, hAg.mov hF2.1, ?_, hF.tr hF2.C, fun q => by omega, fun _ => hMd⟩
    rw [hF2.1 50 (by decide) (by decide), up2_k (by decide)]
    exact hs
  have kp : ∀ M : Mem, FrC M0 M d → MH M a v := by
    intro M hF
    refine ⟨(hF.2.2.1 a had).trans hv.1, fun i hi => ?_⟩
    show M 51 (420 * a + i) = _
    rw [hF.2.2.2 _ (by omega)]
    exact hv.2 i hi
  change aw 0 [some (.inr (.inr 50)), some (.inl (a : Int)), some (.inl (d : Int)), none] [] M0
  refine run 60 [40] _ _ _ _ ?_
  refine And.intro rfl (And.intro ⟨rfl, by omega, by omega⟩ (And.intro rfl (And.intro ⟨rfl, by omega, by omega⟩ ?_)))
  conv => whnf
  rw [Int.toNat_natCast, Int.toNat_natCast, hv1, hrd]
  refine And.intro ⟨⟨by omega, by omega⟩, ⟨by omega, by omega⟩⟩ (And.intro (fun hle => ?_) (fun hgt => ?_))
  · have hcom : comF n.1 n.2.1 tk d pl rm (nd v) = ((nd v : Int), pl, (fun t => if t < n.1 then rm t else 0), 0) := by
      unfold comF
      rw [if_pos hle]
    have hF0 : FrC M0 (up2 M0 50 10 0) d := ⟨fun o a _ _ _ _ _ _ => up2_i a, fun j a _ => up2_k a, fun s _ => by rw [up2_i (by decide)], fun j _ => by rw [up2_i (by decide)]⟩
    refine And.intro rfl ?_
    conv => whnf
    refine And.intro rfl ⟨(d, (nd v : Int), tk), ⟨by rw [hb10], by omega, by omega, ⟨by omega, by omega⟩, ⟨by omega, by omega⟩, fun q => by omega⟩, ?_⟩
    rintro M1 hM1
    dsimp only at hM1
    rw [if_pos (by omega)] at hM1
    subst hM1
    refine And.intro (fin M1 0 _ _ _ hcom hA.drop (kp _ hF0) (by omega) hF0) trivial
  · refine And.intro rfl ⟨(n, tk, pl, rm, (nd v : Int)), ⟨rfl, hA, htk, by omega, by omega⟩, ?_⟩
    rintro x M1 ⟨rfl, hA1, hs1, hF1⟩
    have hF1C : FrC M0 M1 d := hF1.C
    have hM54 : M1 54 d = rm d := by rw [hF1.1 54 (by decide) (by decide) (by decide) (by decide)]; exact hrd
    rcases tkF_cases (n1 := n.1) (c := n.2.1) (tk := tk) (pl := pl) (rm := rm) (k := (nd v : Int)) (by omega) with ⟨t1, t2⟩ | ⟨t1, t2, t3⟩
    · have hcom : comF n.1 n.2.1 tk d pl rm (nd v) = (-4, (tkF n.1 n.2.1 tk pl rm (nd v)).2.1, (tkF n.1 n.2.1 tk pl rm (nd v)).2.2.1, (tkF n.1 n.2.1 tk pl rm (nd v)).2.2.2.2) := by
        unfold comF
        rw [if_neg (by omega), if_pos t1]
      rw [t1]
      refine And.intro ⟨⟨by omega, by omega⟩, ⟨by omega, by omega⟩⟩ (And.intro (fun q => absurd rfl q) (fun _ => Or.inl ?_))
      show -4 = (comF n.1 n.2.1 tk d pl rm (nd v)).1 ∧ AgM n M1 (comF n.1 n.2.1 tk d pl rm (nd v)).2.1 (comF n.1 n.2.1 tk d pl rm (nd v)).2.2.1 0 ∧ M1 50 11 = M0 50 11 + (comF n.1 n.2.1 tk d pl rm (nd v)).2.2.2 ∧ FrC M0 M1 d ∧ _ ∧ _
      rw [hcom]
      rw [t2] at hA1
      exact ⟨rfl, hA1, hs1, hF1C, fun _ => ⟨hF1.1 51 (by decide) (by decide) (by decide) (by decide), hF1.1 52 (by decide) (by decide) (by decide) (by decide)⟩, fun q => absurd rfl q⟩
    · have hcom : comF n.1 n.2.1 tk d pl rm (nd v) = ((nd v : Int), va_up (tkF n.1 n.2.1 tk pl rm (nd v)).2.1 d ((tkF n.1 n.2.1 tk pl rm (nd v)).2.1 (n.1 + tk)), (fun t => if t < n.1 then va_up (tkF n.1 n.2.1 tk pl rm (nd v)).2.2.1 d (nd v : Int) t else 0), (tkF n.1 n.2.1 tk pl rm (nd v)).2.2.2.2) := by
        unfold comF
        rw [if_neg (by omega), if_neg (by rw [t1]; decide)]
      rw [t2] at hA1
      have hb1 := hA1.1.2.2.2.2.2.2.1
      have hl1 : M1 53 d = 1 := by rw [hF1.1 53 (by decide) (by decide) (by decide) (by decide)]; exact hl
      rw [t1]
      refine And.intro ⟨⟨by omega, by omega⟩, ⟨by omega, by omega⟩⟩ (And.intro (fun _ => ?_) (fun q => absurd q (by decide)))
      refine And.intro rfl ?_
      conv => whnf
      refine And.intro rfl ⟨(d, (nd v : Int), tk + 1), ⟨by rw [hb1], by omega, by omega, ⟨by omega, by omega⟩, ⟨by omega, by omega⟩, fun q => by omega⟩, ?_⟩
      rintro M2 hM2
      dsimp only at hM2
      rw [if_neg (by omega), show tk + 1 - 1 = tk by omega] at hM2
      subst hM2
      have hg := hA1.give hd hl1 t3 (by omega)
      have hF3 : FrC M1 (up2 (up2 (up2 M1 55 d (M1 56 tk)) 54 d (nd v : Int)) 50 10 0) d := ⟨fun o a b c e f g i => by rw [up2_i a, up2_i e, up2_i f], fun j a _ => by rw [up2_k a, up2_i (by decide), up2_i (by decide)], fun s _ => by rw [up2_i (by decide), up2_i (by decide), up2_i (by decide)], fun j _ => by rw [up2_i (by decide), up2_i (by decide), up2_i (by decide)]⟩
      refine And.intro (fin _ 0 _ _ _ hcom hg (kp _ (hF1C.tr hF3)) ?_ (hF1C.tr hF3)) trivial
      rw [up2_i (by decide), up2_i (by decide)]
      exact hs1
theorem imX8_comes {l : Launch} {Z : ZT} (hZ : ZOk Z) : Impl l Z yX8_comes cX8_comes 4 (some .int) 3 c_comes := mkImpl (rt := 1) (CL := [(131, some 8, c_take), (135, some 8, c_gets), (101, some 8, c_copy)]) hZ.1 hZ.2.1 (by decide +kernel) kX8_comes fwX8 iwX8 lwX8 trivial (Nat.le_of_ble_eq_true rfl) (List.forall_mem_cons.mpr ⟨gX8_131 hZ (by decide), List.forall_mem_cons.mpr ⟨gX8_135 hZ (by decide), List.forall_mem_cons.mpr ⟨gX8_101 hZ (by decide), fun q h => absurd h List.not_mem_nil⟩⟩⟩) ((v_comes _))
theorem gX8_153 {l : Launch} {Z : ZT} (hZ : ZOk Z) {d : Nat} (hd : 4 ≤ d) : CallI l Z RX8 d (153, some 8, c_comes) := fun p e s m args below meth c Q cc nL x0 X => callOk_V X (imX8_comes hZ) (by decide) rfl mlX8_153 iw_yX8_comes vw_yX8_comes nw_RX8 cw_yX8_comes ⟨by decide +kernel, by decide +kernel, by decide +kernel⟩ ⟨hd, by decide⟩
