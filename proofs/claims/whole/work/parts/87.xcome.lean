/-! ===== the class: writeLimb, runFor, giveRun, come ===== -/
def c_wrL (n : Nn) : Call := ⟨RS × Nat × Nat × Nat, 4, (fun (q, h, i, w) vs M => vs = [.inr (.inr 1), .inl (h : Int), .inl (i : Int), .inl (w : Int)] ∧ XN n M 0 q ∧ h < n.1 ∧ 0 < q.2.1 h ∧ (i : Int) < q.2.1 h ∧ w < 32768), .inr (fun (q, h, i, w) _ M x M' => x = (nd (stV (q.2.2.2 h) i w) : Int) ∧ XN n M' 0 (q.1, q.2.1, q.2.2.1, va_up q.2.2.2 h (stV (q.2.2.2 h) i w)) ∧ FXN M M')⟩
theorem v_wrL (n : Nn) : Ver tX1_writeLimb (fdX1, icX1, lcX1, []) 1 5 n (c_wrL n) := by
  rintro ⟨q, h, i, w⟩ vs M0 ⟨rfl, R, h1, h2, hi, hw⟩ aw run
  have b := R.n24
  have l2 : lnF n 2 = n.2.1 := rfl
  have l3 : lnF n 3 = n.1 + 5 := rfl
  have l4 : lnF n 4 = n.1 + 5 := rfl
  have l5 : lnF n 5 = n.1 := rfl
  have A := R.at h1 h2
  obtain ⟨P, eP⟩ : ∃ P : Nat, q.1 h = (P : Int) := ⟨(q.1 h).toNat, by omega⟩
  obtain ⟨L, eL⟩ : ∃ L : Nat, q.2.1 h = (L : Int) := ⟨(q.2.1 h).toNat, by omega⟩
  obtain ⟨a4, a3, a0, aP, a5, aN, a64, aD⟩ := A
  have hlt : stV (q.2.2.2 h) i w < 32768 ^ L := stV_lt hw (by omega) (by omega)
  have hdg := fun j => stV_dg (v := q.2.2.2 h) (i := i) hw j
  generalize eV : stV (q.2.2.2 h) i w = V at *
  obtain ⟨M1, eM1⟩ : ∃ M1, M1 = up2 M0 2 (P + i) (w : Int) := ⟨_, rfl⟩
  have d2 : ∀ j, j < L → M1 2 (P + j) = (dg V j : Int) := by
    intro j hj
    rw [hdg j, eM1]
    by_cases c : j = i
    · rw [c, up2_s, if_pos rfl]
    · rw [up2_k (by omega), if_neg c]
      have := aD j (by omega)
      rw [eP, Int.toNat_natCast] at this
      exact this
  have g3 : M1 3 h = (P : Int) := by rw [eM1, up2_i (by decide)]; omega
  have g4 : M1 4 h = (L : Int) := by rw [eM1, up2_i (by decide)]; omega
  have fin : ∀ k : Nat, k = nd V → aw 52 [some (.inr (.inr 1)), some (.inl (h : Int)), some (.inl (i : Int)), some (.inl (w : Int)), some (.inl (k : Int))] [] M1 := by
    intro k ek
    refine run 60 [] _ _ _ _ ?_
    refine And.intro rfl (And.intro ⟨rfl, by omega, by omega⟩ (Or.inl ?_))
    show (k : Int) = (nd (stV (q.2.2.2 h) i w) : Int) ∧ XN n (up2 M1 5 (h : Int).toNat (k : Int)) 0 (q.1, q.2.1, q.2.2.1, va_up q.2.2.2 h (stV (q.2.2.2 h) i w)) ∧ FXN M0 (up2 M1 5 (h : Int).toNat (k : Int))
    rw [eV, Int.toNat_natCast]
    have hF : FXN M0 (up2 M1 5 h (k : Int)) := by rw [eM1]; exact (FXN.up (by decide) (by decide)).tr (FXN.up (by decide) (by decide))
    refine ⟨by omega, ?_, hF⟩
    have s := R.stl (run := h) (v := V) (M' := up2 M1 5 h (k : Int)) h1 (by omega) h2 a64 (Or.inl rfl) (by have := nd_le.mpr hlt; omega) (by rw [up2_i (by decide), eM1, up2_i (by decide)]) (fun t ht => ?_) ?_ (fun t ht hne => by rw [up2_i (by decide), eM1, up2_i (by decide)]) (by rw [up2_s, ek]) (fun t hne => by rw [up2_k hne, eM1, up2_i (by decide)]) (fun j hj => ?_) (fun j hj => ?_)
    · refine s.cong (fun t ht => ⟨?_, fun _ => ?_⟩) rfl (fun _ _ _ => rfl)
      · show q.2.1 t = if t = h then q.2.1 h else if t = h then 0 else q.2.1 t
        by_cases c : t = h
        · rw [if_pos c, c]
        · rw [if_neg c, if_neg c]
      · show q.1 t = va_up q.1 h (q.1 h) t
        by_cases c : t = h
        · rw [c, va_up_self]
        · rw [va_up_ne _ _ c]
    · rw [up2_i (by decide), eM1, up2_i (by decide)]
      show M0 4 t = if t = h then q.2.1 h else if t = h then 0 else q.2.1 t
      rw [(R.run ht).1]
      by_cases c : t = h
      · rw [if_pos c, c]
      · rw [if_neg c, if_neg c]
    · rw [up2_i (by decide), eM1, up2_i (by decide)]
      exact a3
    · rw [up2_i (by decide), eP, Int.toNat_natCast]
      exact d2 j (by omega)
    · rw [up2_i (by decide), eM1, up2_k (by omega)]
  have loop : ∀ k : Nat, k ≤ L → nd V ≤ k → aw 22 [some (.inr (.inr 1)), some (.inl (h : Int)), some (.inl (i : Int)), some (.inl (w : Int)), some (.inl (k : Int))] [] M1 := by
    intro k
    induction k with
    | zero =>
      intro _ hk
      refine run 60 [22, 52] _ _ _ _ ?_
      refine And.intro ⟨⟨by omega, by omega⟩, ⟨by omega, by omega⟩⟩ (And.intro (fun _ => ?_) (fun c2 => absurd c2 (by omega)))
      exact And.intro (fin 0 (by omega)) trivial
    | succ k ih =>
      intro hk1 hk2
      have g := d2 k (by omega)
      have gl := dg_lt V k
      refine run 60 [22, 52] _ _ _ _ ?_
      refine And.intro ⟨⟨by omega, by omega⟩, ⟨by omega, by omega⟩⟩ (And.intro (fun c1 => absurd c1 (by omega)) (fun _ => ?_))
      refine And.intro rfl (And.intro rfl (And.intro ⟨rfl, by omega, by omega⟩ ?_))
      conv => whnf
      rw [Int.toNat_natCast, g3]
      refine And.intro ⟨rfl, by omega, by omega⟩ ?_
      conv => whnf
      rw [show ((P : Int) + ((k + 1 : Nat) : Int) - 1).toNat = P + k by omega, g]
      by_cases c : dg V k = 0
      · refine And.intro ⟨⟨by omega, by omega⟩, ⟨by omega, by omega⟩⟩ (And.intro (fun c1 => absurd c1 (by omega)) (fun _ => ?_))
        refine And.intro ?_ trivial
        rw [show ((k + 1 : Nat) : Int) + -1 = (k : Int) by omega]
        exact ih (by omega) (nd_dn hk2 c)
      · refine And.intro ⟨⟨by omega, by omega⟩, ⟨by omega, by omega⟩⟩ (And.intro (fun _ => ?_) (fun c2 => absurd c2 (by omega)))
        exact And.intro (fin (k + 1) (nd_up hk2 c).symm) trivial
  change aw 0 [some (.inr (.inr 1)), some (.inl (h : Int)), some (.inl (i : Int)), some (.inl (w : Int)), none] [] M0
  refine run 60 [22] _ _ _ _ ?_
  refine And.intro rfl (And.intro rfl (And.intro ⟨rfl, by omega, by omega⟩ ?_))
  conv => whnf
  rw [Int.toNat_natCast, a3, eP]
  refine And.intro ⟨rfl, by omega, by omega⟩ (And.intro rfl (And.intro ⟨rfl, by omega, by omega⟩ (And.intro ?_ trivial)))
  rw [show ((P : Int) + (i : Int)).toNat = P + i by omega, Int.toNat_natCast, ← eM1, g4]
  exact loop L (Nat.le_refl _) (nd_le.mpr hlt)
theorem imX1_writeLimb {l : Launch} {Z : ZT} (hZ : ZOk Z) : Impl l Z yX1_writeLimb cX1_writeLimb 5 (some .int) 1 (c_wrL (zN Z)) := mkImpl (rt := 1) (CL := []) hZ.1 hZ.2.1 (by decide +kernel) kX1_writeLimb fwX1 iwX1 lwX1 trivial (Nat.le_of_ble_eq_true rfl) (fun q h => absurd h List.not_mem_nil) ((v_wrL (zN Z)))
theorem gX7_120 {l : Launch} {Z : ZT} (hZ : ZOk Z) {d : Nat} (hd : 2 ≤ d) : CallI l Z RX7 d (120, some 1, (c_wrL (zN Z))) := fun p e s m args below meth c Q cc nL x0 X => callOk_V X (imX1_writeLimb hZ) (by decide) rfl mlX7_120 iw_yX1_writeLimb vw_yX1_writeLimb nw_RX1 cw_yX1_writeLimb ⟨by decide +kernel, by decide +kernel, show (parseMethodDescriptor yX1_writeLimb.desc).map (fun d => d.parameters.length) = some 3 by decide +kernel⟩ ⟨hd, by decide⟩
def c_runFor (n : Nn) : Call := ⟨Nat × RS × Nat × Nat, 3, (fun (tk, q, h, k) vs M => vs = [.inr (.inr 1), .inl (h : Int), .inl (k : Int)] ∧ XN n M tk q ∧ tk ≤ 4 ∧ h < n.1 ∧ k ≤ 1000), .inr (fun (tk, q, h, k) _ M x M' => ((k : Int) ≤ q.2.1 h ∧ x = (h : Int) ∧ M' = M) ∨ (q.2.1 h < (k : Int) ∧ TkX n M M' tk q (k : Int) x))⟩
theorem v_runFor (n : Nn) : Ver tX1_runFor (fdX1, icX1, lcX1, [(54, some 1, c_takeX n)]) 1 3 n (c_runFor n) := by
  rintro ⟨tk, q, h, k⟩ vs M0 ⟨rfl, R, h4, h1, hk⟩ aw run
  have b := R.n24
  have l4 : lnF n 4 = n.1 + 5 := rfl
  have r := R.run (t := h) (by omega)
  change aw 0 [some (.inr (.inr 1)), some (.inl (h : Int)), some (.inl (k : Int))] [] M0
  refine run 60 [] _ _ _ _ ?_
  refine And.intro rfl (And.intro ⟨rfl, by omega, by omega⟩ ?_)
  conv => whnf
  rw [Int.toNat_natCast, r.1]
  refine And.intro ⟨⟨by omega, by omega⟩, ⟨by omega, by omega⟩⟩ (And.intro (fun c1 => ?_) (fun c2 => ?_))
  · refine And.intro rfl ⟨(tk, q, (k : Int)), ⟨rfl, R, h4, by omega, by omega⟩, ?_⟩
    rintro x M1 hT
    exact Or.inl (Or.inr ⟨by omega, hT⟩)
  · exact Or.inl (Or.inl ⟨by omega, rfl, rfl⟩)
theorem imX1_runFor {l : Launch} {Z : ZT} (hZ : ZOk Z) : Impl l Z yX1_runFor cX1_runFor 3 (some .int) 5 (c_runFor (zN Z)) := mkImpl (rt := 1) (CL := [(54, some 1, (c_takeX (zN Z)))]) hZ.1 hZ.2.1 (by decide +kernel) kX1_runFor fwX1 iwX1 lwX1 trivial (Nat.le_of_ble_eq_true rfl) (List.forall_mem_cons.mpr ⟨gX1_54 hZ (by decide), fun q h => absurd h List.not_mem_nil⟩) ((v_runFor (zN Z)))
theorem gX1_80 {l : Launch} {Z : ZT} (hZ : ZOk Z) {d : Nat} (hd : 6 ≤ d) : CallI l Z RX1 d (80, some 1, (c_runFor (zN Z))) := fun p e s m args below meth c Q cc nL x0 X => callOk_V X (imX1_runFor hZ) (by decide) rfl mlX1_80 iw_yX1_runFor vw_yX1_runFor nw_RX1 cw_yX1_runFor ⟨by decide +kernel, by decide +kernel, show (parseMethodDescriptor yX1_runFor.desc).map (fun d => d.parameters.length) = some 2 by decide +kernel⟩ ⟨hd, by decide⟩
theorem gX7_205 {l : Launch} {Z : ZT} (hZ : ZOk Z) {d : Nat} (hd : 6 ≤ d) : CallI l Z RX7 d (205, some 1, (c_runFor (zN Z))) := fun p e s m args below meth c Q cc nL x0 X => callOk_V X (imX1_runFor hZ) (by decide) rfl mlX7_205 iw_yX1_runFor vw_yX1_runFor nw_RX1 cw_yX1_runFor ⟨by decide +kernel, by decide +kernel, show (parseMethodDescriptor yX1_runFor.desc).map (fun d => d.parameters.length) = some 2 by decide +kernel⟩ ⟨hd, by decide⟩
def GvX (n : Nn) (M M' : Mem) (q : RS) (h : Nat) (k : Int) (v : Nat) (x : Int) : Prop := ∃ q1 : RS, ((x = 1 ∧ tkR n 0 q k = (1, 1, q1) ∧ XN n M' 0 (gvR n q1 (va_up (fun t => t) h n.1) (va_up q.2.2.2 h v))) ∨ (x = 0 ∧ tkR n 0 q k = (0, 0, q1) ∧ XN n M' 0 q1)) ∧ q1.2.2.2 = q.2.2.2 ∧ FXN M M'
def c_giveR (n : Nn) : Call := ⟨RS × Nat × Int × Nat × Nat, 4, (fun (q, h, k, r, v) vs M => vs = [.inr (.inr 1), .inl (h : Int), .inl k, .inr (.inr r)] ∧ XN n M 0 q ∧ h < n.1 ∧ 1 ≤ k ∧ k ≤ 64 ∧ isRw r ∧ XR M r v ∧ (nd v : Int) ≤ k), .inr (fun (q, h, k, _, v) _ M x M' => GvX n M M' q h k v x)⟩
theorem v_giveR (n : Nn) : Ver tX1_giveRun (fdX1, icX1, lcX1, [(54, some 1, c_takeX n), (76, some 1, c_settle n), (67, some 1, c_drop n)]) 2 5 n (c_giveR n) := by
  rintro ⟨q, h, k, r, v⟩ vs M0 ⟨rfl, R, h1, hk1, hk2, hr, hX, hv⟩ aw run
  have b := R.n24
  change aw 0 [some (.inr (.inr 1)), some (.inl (h : Int)), some (.inl k), some (.inr (.inr r)), none] [] M0
  refine run 60 [] _ _ _ _ ?_
  refine And.intro rfl ⟨(0, q, k), ⟨rfl, R, by omega, by omega, by omega⟩, ?_⟩
  rintro x M1 ⟨q1, ho, -, hvl, hF⟩
  rcases ho with ⟨rfl, ht, R1, hk⟩ | ⟨rfl, ht, R1⟩
  rotate_left
  · refine And.intro ⟨⟨by omega, by omega⟩, ⟨by omega, by omega⟩⟩ (And.intro (fun c1 => absurd c1 (by omega)) (fun _ => ?_))
    exact And.intro (Or.inl rfl) (Or.inl ⟨q1, Or.inr ⟨rfl, ht, R1⟩, hvl, hF⟩)
  rw [Nat.add_zero] at hk ⊢
  refine And.intro ⟨⟨by omega, by omega⟩, ⟨by omega, by omega⟩⟩ (And.intro (fun _ => ?_) (fun c2 => absurd c2 (by omega)))
  refine And.intro rfl ⟨(1, q1, h, n.1, r, v), ⟨rfl, R1, hr, hF.keep hr hX, h1, by omega, by omega, by omega, Or.inr (Nat.le_refl _), by omega⟩, ?_⟩
  rintro M2 ⟨R2, hF2⟩
  refine And.intro rfl ⟨(1, stlR q1 h n.1 v), ⟨rfl, R2⟩, ?_⟩
  rintro M3 ⟨R3, hF3⟩
  refine And.intro (Or.inr rfl) (Or.inl ⟨q1, Or.inl ⟨rfl, ht, R3.cong (fun t ht => ⟨?_, fun z => ?_⟩) rfl (fun t ht _ => ?_)⟩, hvl, (hF.tr hF2).tr hF3⟩)
  · show (if t < n.1 then q1.2.1 (va_up (fun t => t) h n.1 t) else 0) = if t < n.1 then (if t = h then q1.2.1 n.1 else if t = n.1 then 0 else q1.2.1 t) else 0
    by_cases c : t < n.1
    · rw [if_pos c, if_pos c]
      by_cases d : t = h
      · rw [d, va_up_self, if_pos rfl]
      · rw [va_up_ne _ _ d, if_neg d, if_neg (by omega)]
    · rw [if_neg c, if_neg c]
  · change 0 < (if t < n.1 then _ else 0) at z
    have c : t < n.1 := by
      refine Nat.lt_of_not_le (fun c => ?_)
      rw [if_neg (by omega)] at z
      omega
    show q1.1 (va_up (fun t => t) h n.1 t) = va_up q1.1 h (q1.1 n.1) t
    by_cases d : t = h
    · rw [d, va_up_self, va_up_self]
    · rw [va_up_ne _ _ d, va_up_ne _ _ d]
  · show va_up q.2.2.2 h v t = va_up q1.2.2.2 h v t
    rw [hvl]
theorem imX1_giveRun {l : Launch} {Z : ZT} (hZ : ZOk Z) : Impl l Z yX1_giveRun cX1_giveRun 5 (some .boolean) 5 (c_giveR (zN Z)) := mkImpl (rt := 2) (CL := [(54, some 1, (c_takeX (zN Z))), (76, some 1, (c_settle (zN Z))), (67, some 1, (c_drop (zN Z)))]) hZ.1 hZ.2.1 (by decide +kernel) kX1_giveRun fwX1 iwX1 lwX1 trivial (Nat.le_of_ble_eq_true rfl) (List.forall_mem_cons.mpr ⟨gX1_54 hZ (by decide), List.forall_mem_cons.mpr ⟨gX1_76 hZ (by decide), List.forall_mem_cons.mpr ⟨gX1_67 hZ (by decide), fun q h => absurd h List.not_mem_nil⟩⟩⟩) ((v_giveR (zN Z)))
theorem gX7_96 {l : Launch} {Z : ZT} (hZ : ZOk Z) {d : Nat} (hd : 6 ≤ d) : CallI l Z RX7 d (96, some 1, (c_giveR (zN Z))) := fun p e s m args below meth c Q cc nL x0 X => callOk_V X (imX1_giveRun hZ) (by decide) rfl mlX7_96 iw_yX1_giveRun vw_yX1_giveRun nw_RX1 cw_yX1_giveRun ⟨by decide +kernel, by decide +kernel, show (parseMethodDescriptor yX1_giveRun.desc).map (fun d => d.parameters.length) = some 3 by decide +kernel⟩ ⟨hd, by decide⟩
def c_come (n : Nn) : Call := ⟨Nat × RS × Nat × Nat × Nat, 3, (fun (tk, q, d, r, v) vs M => vs = [.inr (.inr 1), .inl (d : Int), .inr (.inr r)] ∧ XN n M tk q ∧ tk ≤ 4 ∧ d < n.1 ∧ 0 < q.2.1 d ∧ isRw r ∧ XR M r v ∧ nd v ≤ 130), .inr (fun (tk, q, d, _, v) _ M x M' => ((64 < nd v ∧ x = -8 ∧ XN n M' 0 (drR n q)) ∨ (nd v ≤ 64 ∧ x = (cmR n tk q d v).1 ∧ XN n M' 0 (cmR n tk q d v).2)) ∧ FXN M M')⟩
theorem v_come (n : Nn) : Ver tX1_come (fdX1, icX1, lcX1, [(67, some 1, c_drop n), (80, some 1, c_runFor n), (76, some 1, c_settle n)]) 1 4 n (c_come n) := by
  rintro ⟨tk, q, d, r, v⟩ vs M0 ⟨rfl, R, h4, h1, h2, hr, hX, hv⟩ aw run
  have b := R.n24
  have hX1 : M0 r 1 = (nd v : Int) := hX.1
  have A := R.at h1 h2
  change aw 0 [some (.inr (.inr 1)), some (.inl (d : Int)), some (.inr (.inr r)), none] [] M0
  refine run 60 [] _ _ _ _ ?_
  refine And.intro hr.kd ?_
  conv => whnf
  rw [hX1]
  refine And.intro ⟨⟨by omega, by omega⟩, ⟨by omega, by omega⟩⟩ (And.intro (fun c1 => ?_) (fun c2 => ?_))
  rotate_left
  · refine And.intro rfl ⟨(tk, q), ⟨rfl, R⟩, ?_⟩
    rintro M1 ⟨R1, hF1⟩
    exact Or.inl ⟨Or.inl ⟨by omega, rfl, R1⟩, hF1⟩
  refine And.intro hr.kd ?_
  conv => whnf
  rw [hX1]
  refine And.intro rfl ⟨(tk, q, d, nd v), ⟨rfl, R, h4, h1, by omega⟩, ?_⟩
  rintro x M1 hx
  rcases hx with ⟨hle, rfl, rfl⟩ | ⟨hgt, q1, ho, hrm, hvl, hF⟩
  · refine And.intro ⟨⟨by omega, by omega⟩, ⟨by omega, by omega⟩⟩ (And.intro (fun _ => ?_) (fun c2 => absurd c2 (by omega)))
    refine And.intro rfl ⟨(tk, q, d, d, r, v), ⟨rfl, R, hr, hX, h1, by omega, h2, by omega, Or.inl rfl, hle⟩, ?_⟩
    rintro M2 ⟨R2, hF2⟩
    refine And.intro rfl ⟨(tk, stlR q d d v), ⟨rfl, R2⟩, ?_⟩
    rintro M3 ⟨R3, hF3⟩
    have hX3 : M3 r 1 = (nd v : Int) := (hF3.keep hr (hF2.keep hr hX)).1
    have ec : cmR n tk q d v = ((nd v : Int), (q.1, (fun t => if t < n.1 then q.2.1 t else 0), q.2.2.1 + 0, va_up q.2.2.2 d v)) := by
      unfold cmR comF
      rw [if_pos hle]
      dsimp only
      rw [if_neg (by omega)]
    refine And.intro hr.kd (Or.inl ⟨Or.inr ⟨by omega, ?_, ?_⟩, hF2.tr hF3⟩)
    · show M3 r 1 = (cmR n tk q d v).1
      rw [ec]
      exact hX3
    · rw [ec]
      refine R3.cong (fun t ht => ⟨?_, fun _ => ?_⟩) (Int.add_zero _) (fun _ _ _ => rfl)
      · show (if t < n.1 then q.2.1 t else 0) = if t < n.1 then (if t = d then q.2.1 d else if t = d then 0 else q.2.1 t) else 0
        by_cases c : t = d
        · rw [c, if_pos rfl]
        · rw [if_neg c, if_neg c]
      · show q.1 t = va_up q.1 d (q.1 d) t
        by_cases c : t = d
        · rw [c, va_up_self]
        · rw [va_up_ne _ _ c]
  · have kp : 0 < (nd v : Int) := by omega
    rcases ho with ⟨rfl, ht, R1, hk⟩ | ⟨rfl, ht, R1⟩
    rotate_left
    · refine And.intro ⟨⟨by omega, by omega⟩, ⟨by omega, by omega⟩⟩ (And.intro (fun c1 => absurd c1 (by omega)) (fun _ => ?_))
      have t1 : (tkF n.1 n.2.1 tk q.1 q.2.1 (nd v)).1 = 0 := congrArg (·.1) ht
      have t2 : q1 = (tkR n tk q (nd v)).2.2 := by rw [ht]
      have ec : cmR n tk q d v = (-4, q1) := by
        unfold cmR comF
        rw [if_neg (by omega), if_pos t1]
        dsimp only
        rw [if_pos rfl, t2]
        rfl
      refine Or.inl ⟨Or.inr ⟨by omega, ?_, ?_⟩, hF⟩
      · show -4 = (cmR n tk q d v).1
        rw [ec]
      · rw [ec]
        exact R1
    · have t1 : (tkF n.1 n.2.1 tk q.1 q.2.1 (nd v)).1 = 1 := congrArg (·.1) ht
      have t2 : q1 = (tkR n tk q (nd v)).2.2 := by rw [ht]
      refine And.intro ⟨⟨by omega, by omega⟩, ⟨by omega, by omega⟩⟩ (And.intro (fun _ => ?_) (fun c2 => absurd c2 (by omega)))
      refine And.intro rfl ⟨(tk + 1, q1, d, n.1 + tk, r, v), ⟨rfl, R1, hr, hF.keep hr hX, h1, by omega, by omega, by omega, Or.inr (by omega), by omega⟩, ?_⟩
      rintro M2 ⟨R2, hF2⟩
      refine And.intro rfl ⟨(tk + 1, stlR q1 d (n.1 + tk) v), ⟨rfl, R2⟩, ?_⟩
      rintro M3 ⟨R3, hF3⟩
      have hX3 : M3 r 1 = (nd v : Int) := (hF3.keep hr (hF2.keep hr (hF.keep hr hX))).1
      have ec : cmR n tk q d v = ((nd v : Int), (va_up q1.1 d (q1.1 (n.1 + tk)), (fun t => if t < n.1 then va_up q1.2.1 d (nd v : Int) t else 0), q1.2.2.1, va_up q.2.2.2 d v)) := by
        rw [t2]
        unfold cmR comF
        rw [if_neg (by omega), if_neg (by omega)]
        dsimp only
        rw [if_neg (by omega)]
        rfl
      refine And.intro hr.kd (Or.inl ⟨Or.inr ⟨by omega, ?_, ?_⟩, (hF.tr hF2).tr hF3⟩)
      · show M3 r 1 = (cmR n tk q d v).1
        rw [ec]
        exact hX3
      · rw [ec]
        refine R3.cong (fun t ht => ⟨?_, fun _ => rfl⟩) rfl (fun t ht _ => ?_)
        · show (if t < n.1 then va_up q1.2.1 d (nd v : Int) t else 0) = if t < n.1 then (if t = d then q1.2.1 (n.1 + tk) else if t = n.1 + tk then 0 else q1.2.1 t) else 0
          by_cases c : t < n.1
          · rw [if_pos c, if_pos c]
            by_cases e : t = d
            · rw [e, va_up_self, if_pos rfl, hk]
            · rw [va_up_ne _ _ e, if_neg e, if_neg (by omega)]
          · rw [if_neg c, if_neg c]
        · show va_up q.2.2.2 d v t = va_up q1.2.2.2 d v t
          rw [hvl]
theorem imX1_come {l : Launch} {Z : ZT} (hZ : ZOk Z) : Impl l Z yX1_come cX1_come 4 (some .int) 6 (c_come (zN Z)) := mkImpl (rt := 1) (CL := [(67, some 1, (c_drop (zN Z))), (80, some 1, (c_runFor (zN Z))), (76, some 1, (c_settle (zN Z)))]) hZ.1 hZ.2.1 (by decide +kernel) kX1_come fwX1 iwX1 lwX1 trivial (Nat.le_of_ble_eq_true rfl) (List.forall_mem_cons.mpr ⟨gX1_67 hZ (by decide), List.forall_mem_cons.mpr ⟨gX1_80 hZ (by decide), List.forall_mem_cons.mpr ⟨gX1_76 hZ (by decide), fun q h => absurd h List.not_mem_nil⟩⟩⟩) ((v_come (zN Z)))
theorem gX7_169 {l : Launch} {Z : ZT} (hZ : ZOk Z) {d : Nat} (hd : 7 ≤ d) : CallI l Z RX7 d (169, some 1, (c_come (zN Z))) := fun p e s m args below meth c Q cc nL x0 X => callOk_V X (imX1_come hZ) (by decide) rfl mlX7_169 iw_yX1_come vw_yX1_come nw_RX1 cw_yX1_come ⟨by decide +kernel, by decide +kernel, show (parseMethodDescriptor yX1_come.desc).map (fun d => d.parameters.length) = some 2 by decide +kernel⟩ ⟨hd, by decide⟩
