/-! ===== the class: the runs and the numbers in the cells ===== -/
theorem gcp_X1 {l : Launch} {Z : ZT} (hZ : ZOk Z) {d : Nat} (hd : 1 ≤ d) : CallI l Z RX1 d (45, none, cpC (zN Z)) := fun p e s m args below meth c Q cc nL x0 X => callOk_cp X hZ.2.1 ⟨mlX1_45, ac_native, ac_static, ac_init⟩ hd
theorem gcp_X2 {l : Launch} {Z : ZT} (hZ : ZOk Z) {d : Nat} (hd : 1 ≤ d) : CallI l Z RX2 d (53, none, cpC (zN Z)) := fun p e s m args below meth c Q cc nL x0 X => callOk_cp X hZ.2.1 ⟨mlX2_53, ac_native, ac_static, ac_init⟩ hd
/-- the class has these runs and numbers, tk of the runs taken -/
def XN (n : Nn) (M : Mem) (tk : Nat) (q : RS) : Prop :=
  (1 ≤ n.1 ∧ n.1 ≤ 24 ∧ 16 ≤ n.2.1 ∧ n.2.1 ≤ 800 ∧ tk ≤ 5) ∧ (M 1 0 = (n.1 : Int) ∧ M 1 5 = (tk : Int) ∧ M 1 6 = q.2.2.1) ∧ (∀ t, t < n.1 + 5 → M 4 t = q.2.1 t ∧ 0 ≤ q.2.1 t ∧ 0 ≤ M 3 t ∧ M 3 t ≤ (n.2.1 : Int) ∧ (0 < q.2.1 t → M 3 t = q.1 t ∧ q.1 t + q.2.1 t ≤ (n.2.1 : Int))) ∧ (∀ t, n.1 + tk ≤ t → t < n.1 + 5 → q.2.1 t = 0) ∧ Dj q.1 q.2.1 (n.1 + 5) ∧ NmO n q ∧ ∀ h, h < n.1 → 0 < q.2.1 h → M 5 h = (nd (q.2.2.2 h) : Int) ∧ ∀ i : Nat, (i : Int) < q.2.1 h → M 2 ((q.1 h).toNat + i) = (dg (q.2.2.2 h) i : Int)
/-- the cells of the runs alone have changed -/
def FXN (M M' : Mem) : Prop := ∀ o, (o = 0 ∨ 5 < o) → M' o = M o
theorem FXN.rf (M : Mem) : FXN M M := fun _ _ => rfl
theorem FXN.tr {M M1 M2 : Mem} (h : FXN M M1) (h2 : FXN M1 M2) : FXN M M2 := fun o a => (h2 o a).trans (h o a)
theorem FXN.up {M : Mem} {o k : Nat} {x : Int} (h1 : 1 ≤ o) (h2 : o ≤ 5) : FXN M (up2 M o k x) := fun p a => up2_i (by omega)
theorem FXN.keep {M M' : Mem} {s v : Nat} (h : FXN M M') (hs : isRw s) (hv : XR M s v) : XR M' s v := by
  unfold XR at *
  rw [h s (by omega), h (s + 1) (by omega)]
  exact hv
theorem XN.fr {n : Nn} {M M' : Mem} {tk : Nat} {q : RS} (R : XN n M tk q) (h : ∀ o, 1 ≤ o → o ≤ 5 → M' o = M o) : XN n M' tk q := by
  unfold XN at *
  rw [h 1 (by omega) (by omega), h 2 (by omega) (by omega), h 3 (by omega) (by omega), h 4 (by omega) (by omega), h 5 (by omega) (by omega)]
  exact R
theorem XN.fx {n : Nn} {M M' : Mem} {tk r : Nat} {q : RS} (R : XN n M tk q) (h : FrX M M' r) (hr : isRw r) : XN n M' tk q := R.fr (fun o _ _ => h o (by omega) (by omega))
theorem XN.fk {n : Nn} {M M' : Mem} {tk : Nat} {q : RS} (R : XN n M tk q) (h : FrK M M') : XN n M' tk q := R.fr (fun o _ _ => h o (by omega))
theorem XN.cong {n : Nn} {M : Mem} {tk : Nat} {q q2 : RS} (R : XN n M tk q) (h1 : ∀ t, t < n.1 + 5 → q2.2.1 t = q.2.1 t ∧ (0 < q.2.1 t → q2.1 t = q.1 t)) (h2 : q2.2.2.1 = q.2.2.1) (h3 : ∀ h, h < n.1 → 0 < q.2.1 h → q2.2.2.2 h = q.2.2.2 h) : XN n M tk q2 := by
  obtain ⟨r1, r2, r3, r4, r5, r6, r7⟩ := R
  refine ⟨r1, by rw [h2]; exact r2, fun t ht => ?_, fun t a b => by rw [(h1 t b).1]; exact r4 t a b, Ag.dj h1 r5, fun h a b => ?_, fun h a b => ?_⟩
  · rw [(h1 t ht).1]
    have := r3 t ht
    refine ⟨this.1, this.2.1, this.2.2.1, this.2.2.2.1, fun z => ?_⟩
    rw [(h1 t ht).2 z]
    exact this.2.2.2.2 z
  · rw [(h1 h (by omega)).1] at b ⊢
    rw [h3 h a b]
    exact r6 h a b
  · rw [(h1 h (by omega)).1] at b ⊢
    rw [h3 h a b, (h1 h (by omega)).2 b]
    exact r7 h a b
theorem XN.n24 {n : Nn} {M : Mem} {tk : Nat} {q : RS} (R : XN n M tk q) : 1 ≤ n.1 ∧ n.1 ≤ 24 ∧ 16 ≤ n.2.1 ∧ n.2.1 ≤ 800 ∧ tk ≤ 5 := R.1
theorem XN.hd {n : Nn} {M : Mem} {tk : Nat} {q : RS} (R : XN n M tk q) : M 1 0 = (n.1 : Int) ∧ M 1 5 = (tk : Int) ∧ M 1 6 = q.2.2.1 := R.2.1
theorem XN.run {n : Nn} {M : Mem} {tk t : Nat} {q : RS} (R : XN n M tk q) (ht : t < n.1 + 5) : M 4 t = q.2.1 t ∧ 0 ≤ q.2.1 t ∧ q.2.1 t ≤ 800 ∧ 0 ≤ M 3 t ∧ M 3 t ≤ 800 ∧ (0 < q.2.1 t → M 3 t = q.1 t ∧ q.1 t + q.2.1 t ≤ (n.2.1 : Int)) := by
  have h := R.2.2.1 t ht
  have b := R.1
  refine ⟨h.1, h.2.1, ?_, h.2.2.1, by omega, h.2.2.2.2⟩
  by_cases c : 0 < q.2.1 t
  · have := h.2.2.2.2 c
    omega
  · omega
theorem XN.at {n : Nn} {M : Mem} {tk h : Nat} {q : RS} (R : XN n M tk q) (h1 : h < n.1) (h2 : 0 < q.2.1 h) : M 4 h = q.2.1 h ∧ M 3 h = q.1 h ∧ 0 ≤ q.1 h ∧ q.1 h + q.2.1 h ≤ (n.2.1 : Int) ∧ M 5 h = (nd (q.2.2.2 h) : Int) ∧ (nd (q.2.2.2 h) : Int) ≤ q.2.1 h ∧ q.2.1 h ≤ 64 ∧ ∀ i : Nat, (i : Int) < q.2.1 h → M 2 ((q.1 h).toNat + i) = (dg (q.2.2.2 h) i : Int) := by
  have a := R.2.2.1 h (by omega)
  have b := R.2.2.2.2.2.1 h h1 h2
  have c := R.2.2.2.2.2.2 h h1 h2
  have d := a.2.2.2.2 h2
  exact ⟨a.1, d.1, by omega, d.2, c.1, b.1, b.2, c.2⟩
/-- isLive(h) -/
def c_isLiveX (n : Nn) : Call := ⟨Nat × RS × Int, 2, (fun (tk, q, h) vs M => vs = [.inr (.inr 1), .inl h] ∧ inR h ∧ XN n M tk q), .inr (fun (_, q, h) _ M x M' => ((x = 1 ∧ Lv n q h) ∨ (x = 0 ∧ ¬ Lv n q h)) ∧ M' = M)⟩
theorem v_isLiveX (n : Nn) : Ver tX1_isLive (fdX1, icX1, lcX1, []) 2 2 n (c_isLiveX n) := by
  rintro ⟨tk, q, h⟩ vs M0 ⟨rfl, hh, R⟩ aw run
  have b := R.n24
  have e := R.hd
  have l4 : lnF n 4 = n.1 + 5 := rfl
  unfold inR at hh
  change aw 0 [some (.inr (.inr 1)), some (.inl h)] [] M0
  refine run 60 [] _ _ _ _ ?_
  refine And.intro ⟨⟨by omega, by omega⟩, ⟨by omega, by omega⟩⟩ (And.intro (fun c1 => ?_) (fun c2 => ?_))
  · exact And.intro (Or.inl rfl) (Or.inl ⟨Or.inr ⟨rfl, fun z => by have := z.1; omega⟩, rfl⟩)
  refine And.intro rfl ?_
  refine And.intro ⟨⟨by omega, by omega⟩, ⟨by omega, by omega⟩⟩ (And.intro (fun c1 => ?_) (fun c2 => ?_))
  · exact And.intro (Or.inl rfl) (Or.inl ⟨Or.inr ⟨rfl, fun z => by have := z.2.1; omega⟩, rfl⟩)
  have r := R.run (t := h.toNat) (by omega)
  refine And.intro rfl (And.intro ⟨rfl, by omega, by omega⟩ ?_)
  refine And.intro ⟨⟨by omega, by omega⟩, ⟨by omega, by omega⟩⟩ (And.intro (fun c1 => ?_) (fun c2 => ?_))
  · exact And.intro (Or.inl rfl) (Or.inl ⟨Or.inr ⟨rfl, fun z => by have := z.2.2; omega⟩, rfl⟩)
  · exact And.intro (Or.inr rfl) (Or.inl ⟨Or.inl ⟨rfl, by omega, by omega, by omega⟩, rfl⟩)
theorem imX1_isLive {l : Launch} {Z : ZT} (hZ : ZOk Z) : Impl l Z yX1_isLive cX1_isLive 2 (some .boolean) 1 (c_isLiveX (zN Z)) := mkImpl (rt := 2) (CL := []) hZ.1 hZ.2.1 (by decide +kernel) kX1_isLive fwX1 iwX1 lwX1 trivial (Nat.le_of_ble_eq_true rfl) (fun q h => absurd h List.not_mem_nil) ((v_isLiveX (zN Z)))
theorem gX1_28 {l : Launch} {Z : ZT} (hZ : ZOk Z) {d : Nat} (hd : 2 ≤ d) : CallI l Z RX1 d (28, some 1, (c_isLiveX (zN Z))) := fun p e s m args below meth c Q cc nL x0 X => callOk_V X (imX1_isLive hZ) (by decide) rfl mlX1_28 iw_yX1_isLive vw_yX1_isLive nw_RX1 cw_yX1_isLive ⟨by decide +kernel, by decide +kernel, show (parseMethodDescriptor yX1_isLive.desc).map (fun d => d.parameters.length) = some 1 by decide +kernel⟩ ⟨hd, by decide⟩
theorem gX7_100 {l : Launch} {Z : ZT} (hZ : ZOk Z) {d : Nat} (hd : 2 ≤ d) : CallI l Z RX7 d (100, some 1, (c_isLiveX (zN Z))) := fun p e s m args below meth c Q cc nL x0 X => callOk_V X (imX1_isLive hZ) (by decide) rfl mlX7_100 iw_yX1_isLive vw_yX1_isLive nw_RX1 cw_yX1_isLive ⟨by decide +kernel, by decide +kernel, show (parseMethodDescriptor yX1_isLive.desc).map (fun d => d.parameters.length) = some 1 by decide +kernel⟩ ⟨hd, by decide⟩
def c_areLive (n : Nn) : Call := ⟨Nat × RS × Int × Int × Int, 4, (fun (tk, q, a, b, c) vs M => vs = [.inr (.inr 1), .inl a, .inl b, .inl c] ∧ inR a ∧ inR b ∧ inR c ∧ XN n M tk q), .inr (fun (_, q, a, b, c) _ M x M' => ((x = 1 ∧ Lv n q a ∧ Lv n q b ∧ Lv n q c) ∨ (x = 0 ∧ ¬ (Lv n q a ∧ Lv n q b ∧ Lv n q c))) ∧ M' = M)⟩
theorem v_areLive (n : Nn) : Ver tX1_areLive (fdX1, icX1, lcX1, [(28, some 1, c_isLiveX n)]) 2 4 n (c_areLive n) := by
  rintro ⟨tk, q, a, b, c⟩ vs M0 ⟨rfl, ha, hb, hc, R⟩ aw run
  change aw 0 [some (.inr (.inr 1)), some (.inl a), some (.inl b), some (.inl c)] [] M0
  refine run 60 [] _ _ _ _ ?_
  refine And.intro rfl ⟨(tk, q, a), ⟨rfl, ha, R⟩, ?_⟩
  rintro x M0 ⟨⟨rfl, la⟩ | ⟨rfl, la⟩, rfl⟩
  rotate_left
  · refine And.intro ⟨⟨by omega, by omega⟩, ⟨by omega, by omega⟩⟩ (And.intro (fun _ => ?_) (fun c2 => absurd c2 (by omega)))
    exact And.intro (Or.inl rfl) (Or.inl ⟨Or.inr ⟨rfl, fun z => la z.1⟩, rfl⟩)
  refine And.intro ⟨⟨by omega, by omega⟩, ⟨by omega, by omega⟩⟩ (And.intro (fun c1 => absurd c1 (by omega)) (fun _ => ?_))
  refine And.intro rfl ⟨(tk, q, b), ⟨rfl, hb, R⟩, ?_⟩
  rintro x M0 ⟨⟨rfl, lb⟩ | ⟨rfl, lb⟩, rfl⟩
  rotate_left
  · refine And.intro ⟨⟨by omega, by omega⟩, ⟨by omega, by omega⟩⟩ (And.intro (fun _ => ?_) (fun c2 => absurd c2 (by omega)))
    exact And.intro (Or.inl rfl) (Or.inl ⟨Or.inr ⟨rfl, fun z => lb z.2.1⟩, rfl⟩)
  refine And.intro ⟨⟨by omega, by omega⟩, ⟨by omega, by omega⟩⟩ (And.intro (fun c1 => absurd c1 (by omega)) (fun _ => ?_))
  refine And.intro rfl ⟨(tk, q, c), ⟨rfl, hc, R⟩, ?_⟩
  rintro x M0 ⟨⟨rfl, lc⟩ | ⟨rfl, lc⟩, rfl⟩
  rotate_left
  · refine And.intro ⟨⟨by omega, by omega⟩, ⟨by omega, by omega⟩⟩ (And.intro (fun _ => ?_) (fun c2 => absurd c2 (by omega)))
    exact And.intro (Or.inl rfl) (Or.inl ⟨Or.inr ⟨rfl, fun z => lc z.2.2⟩, rfl⟩)
  refine And.intro ⟨⟨by omega, by omega⟩, ⟨by omega, by omega⟩⟩ (And.intro (fun c1 => absurd c1 (by omega)) (fun _ => ?_))
  exact And.intro (Or.inr rfl) (Or.inl ⟨Or.inl ⟨rfl, la, lb, lc⟩, rfl⟩)
theorem imX1_areLive {l : Launch} {Z : ZT} (hZ : ZOk Z) : Impl l Z yX1_areLive cX1_areLive 4 (some .boolean) 2 (c_areLive (zN Z)) := mkImpl (rt := 2) (CL := [(28, some 1, (c_isLiveX (zN Z)))]) hZ.1 hZ.2.1 (by decide +kernel) kX1_areLive fwX1 iwX1 lwX1 trivial (Nat.le_of_ble_eq_true rfl) (List.forall_mem_cons.mpr ⟨gX1_28 hZ (by decide), fun q h => absurd h List.not_mem_nil⟩) ((v_areLive (zN Z)))
theorem gX7_161 {l : Launch} {Z : ZT} (hZ : ZOk Z) {d : Nat} (hd : 3 ≤ d) : CallI l Z RX7 d (161, some 1, (c_areLive (zN Z))) := fun p e s m args below meth c Q cc nL x0 X => callOk_V X (imX1_areLive hZ) (by decide) rfl mlX7_161 iw_yX1_areLive vw_yX1_areLive nw_RX1 cw_yX1_areLive ⟨by decide +kernel, by decide +kernel, show (parseMethodDescriptor yX1_areLive.desc).map (fun d => d.parameters.length) = some 3 by decide +kernel⟩ ⟨hd, by decide⟩
def c_leastFree (n : Nn) : Call := ⟨Nat × RS, 1, (fun (tk, q) vs M => vs = [.inr (.inr 1)] ∧ XN n M tk q), .inr (fun (_, q) _ M x M' => x = (if frF q.2.1 n.1 0 = n.1 then -1 else (frF q.2.1 n.1 0 : Int)) ∧ M' = M)⟩
theorem v_leastFree (n : Nn) : Ver tX1_leastFree (fdX1, icX1, lcX1, []) 1 2 n (c_leastFree n) := by
  rintro ⟨tk, q⟩ vs M0 ⟨rfl, R⟩ aw run
  have b := R.n24
  have e := R.hd
  have l4 : lnF n 4 = n.1 + 5 := rfl
  have loop : ∀ r h : Nat, h + r = n.1 → frF q.2.1 r h = frF q.2.1 n.1 0 → aw 2 [some (.inr (.inr 1)), some (.inl (h : Int))] [] M0 := by
    intro r
    induction r with
    | zero =>
      intro h hh he
      refine run 60 [2] _ _ _ _ ?_
      refine And.intro rfl ?_
      refine And.intro ⟨⟨by omega, by omega⟩, ⟨by omega, by omega⟩⟩ (And.intro (fun _ => ?_) (fun c2 => absurd c2 (by omega)))
      refine Or.inl ⟨?_, rfl⟩
      show -1 = if frF q.2.1 n.1 0 = n.1 then -1 else (frF q.2.1 n.1 0 : Int)
      rw [← he, frF, if_pos (by omega)]
    | succ r ih =>
      intro h hh he
      have r1 := R.run (t := h) (by omega)
      rw [frF] at he
      refine run 60 [2] _ _ _ _ ?_
      refine And.intro rfl ?_
      refine And.intro ⟨⟨by omega, by omega⟩, ⟨by omega, by omega⟩⟩ (And.intro (fun c1 => absurd c1 (by omega)) (fun _ => ?_))
      refine And.intro rfl (And.intro ⟨rfl, by omega, by omega⟩ ?_)
      conv => whnf
      rw [Int.toNat_natCast, r1.1]
      refine And.intro ⟨⟨by omega, by omega⟩, ⟨by omega, by omega⟩⟩ (And.intro (fun c1 => ?_) (fun c2 => ?_))
      · refine And.intro ?_ trivial
        rw [if_neg c1] at he
        rw [show (h : Int) + 1 = ((h + 1 : Nat) : Int) by omega]
        exact ih (h + 1) (by omega) he
      · rw [if_pos c2] at he
        refine Or.inl ⟨?_, rfl⟩
        show (h : Int) = if frF q.2.1 n.1 0 = n.1 then -1 else (frF q.2.1 n.1 0 : Int)
        rw [← he, if_neg (by omega)]
  change aw 0 [some (.inr (.inr 1)), none] [] M0
  refine run 60 [2] _ _ _ _ ?_
  exact And.intro (loop n.1 0 (by omega) rfl) trivial
theorem imX1_leastFree {l : Launch} {Z : ZT} (hZ : ZOk Z) : Impl l Z yX1_leastFree cX1_leastFree 2 (some .int) 1 (c_leastFree (zN Z)) := mkImpl (rt := 1) (CL := []) hZ.1 hZ.2.1 (by decide +kernel) kX1_leastFree fwX1 iwX1 lwX1 trivial (Nat.le_of_ble_eq_true rfl) (fun q h => absurd h List.not_mem_nil) ((v_leastFree (zN Z)))
theorem gX7_89 {l : Launch} {Z : ZT} (hZ : ZOk Z) {d : Nat} (hd : 2 ≤ d) : CallI l Z RX7 d (89, some 1, (c_leastFree (zN Z))) := fun p e s m args below meth c Q cc nL x0 X => callOk_V X (imX1_leastFree hZ) (by decide) rfl mlX7_89 iw_yX1_leastFree vw_yX1_leastFree nw_RX1 cw_yX1_leastFree ⟨by decide +kernel, by decide +kernel, show (parseMethodDescriptor yX1_leastFree.desc).map (fun d => d.parameters.length) = some 0 by decide +kernel⟩ ⟨hd, by decide⟩
def c_liveH (n : Nn) : Call := ⟨Nat × RS, 1, (fun (tk, q) vs M => vs = [.inr (.inr 1)] ∧ XN n M tk q), .inr (fun (_, q) _ M x M' => x = ctR q.2.1 n.1 ∧ M' = M)⟩
theorem v_liveH (n : Nn) : Ver tX1_liveHandles (fdX1, icX1, lcX1, []) 1 3 n (c_liveH n) := by
  rintro ⟨tk, q⟩ vs M0 ⟨rfl, R⟩ aw run
  have b := R.n24
  have e := R.hd
  have l4 : lnF n 4 = n.1 + 5 := rfl
  have loop : ∀ r h : Nat, h + r = n.1 → aw 4 [some (.inr (.inr 1)), some (.inl (ctR q.2.1 h)), some (.inl (h : Int))] [] M0 := by
    intro r
    induction r with
    | zero =>
      intro h hh
      obtain rfl : h = n.1 := by omega
      refine run 60 [4] _ _ _ _ ?_
      refine And.intro rfl ?_
      refine And.intro ⟨⟨by omega, by omega⟩, ⟨by omega, by omega⟩⟩ (And.intro (fun _ => ?_) (fun c2 => absurd c2 (by omega)))
      exact Or.inl ⟨rfl, rfl⟩
    | succ r ih =>
      intro h hh
      have r1 := R.run (t := h) (by omega)
      have := ih (h + 1) (by omega)
      rw [ctR] at this
      refine run 60 [4] _ _ _ _ ?_
      refine And.intro rfl ?_
      refine And.intro ⟨⟨by omega, by omega⟩, ⟨by omega, by omega⟩⟩ (And.intro (fun c1 => absurd c1 (by omega)) (fun _ => ?_))
      refine And.intro rfl (And.intro ⟨rfl, by omega, by omega⟩ ?_)
      conv => whnf
      rw [Int.toNat_natCast, r1.1]
      refine And.intro ⟨⟨by omega, by omega⟩, ⟨by omega, by omega⟩⟩ (And.intro (fun c1 => ?_) (fun c2 => ?_))
      · refine And.intro ?_ trivial
        rw [if_neg (by omega), Int.add_zero] at this
        rw [show (h : Int) + 1 = ((h + 1 : Nat) : Int) by omega]
        exact this
      · refine And.intro ?_ trivial
        rw [if_pos (by omega)] at this
        rw [show (h : Int) + 1 = ((h + 1 : Nat) : Int) by omega]
        exact this
  change aw 0 [some (.inr (.inr 1)), none, none] [] M0
  refine run 60 [4] _ _ _ _ ?_
  exact And.intro (loop n.1 0 (by omega)) trivial
theorem imX1_liveHandles {l : Launch} {Z : ZT} (hZ : ZOk Z) : Impl l Z yX1_liveHandles cX1_liveHandles 3 (some .int) 1 (c_liveH (zN Z)) := mkImpl (rt := 1) (CL := []) hZ.1 hZ.2.1 (by decide +kernel) kX1_liveHandles fwX1 iwX1 lwX1 trivial (Nat.le_of_ble_eq_true rfl) (fun q h => absurd h List.not_mem_nil) ((v_liveH (zN Z)))
theorem gX7_141 {l : Launch} {Z : ZT} (hZ : ZOk Z) {d : Nat} (hd : 2 ≤ d) : CallI l Z RX7 d (141, some 1, (c_liveH (zN Z))) := fun p e s m args below meth c Q cc nL x0 X => callOk_V X (imX1_liveHandles hZ) (by decide) rfl mlX7_141 iw_yX1_liveHandles vw_yX1_liveHandles nw_RX1 cw_yX1_liveHandles ⟨by decide +kernel, by decide +kernel, show (parseMethodDescriptor yX1_liveHandles.desc).map (fun d => d.parameters.length) = some 0 by decide +kernel⟩ ⟨hd, by decide⟩
def c_used (n : Nn) : Call := ⟨Nat × RS, 1, (fun (tk, q) vs M => vs = [.inr (.inr 1)] ∧ XN n M tk q), .inr (fun (_, q) _ M x M' => x = smR q.2.1 (n.1 + 5) ∧ M' = M)⟩
theorem v_used (n : Nn) : Ver tX1_usedCells (fdX1, icX1, lcX1, []) 1 3 n (c_used n) := by
  rintro ⟨tk, q⟩ vs M0 ⟨rfl, R⟩ aw run
  have b := R.n24
  have l4 : lnF n 4 = n.1 + 5 := rfl
  have loop : ∀ r h : Nat, h + r = n.1 + 5 → aw 4 [some (.inr (.inr 1)), some (.inl (smR q.2.1 h)), some (.inl (h : Int))] [] M0 := by
    intro r
    induction r with
    | zero =>
      intro h hh
      obtain rfl : h = n.1 + 5 := by omega
      refine run 60 [4] _ _ _ _ ?_
      refine And.intro rfl (And.intro rfl ?_)
      refine And.intro ⟨⟨by omega, by omega⟩, ⟨by omega, by omega⟩⟩ (And.intro (fun _ => ?_) (fun c2 => absurd c2 (by omega)))
      exact Or.inl ⟨rfl, rfl⟩
    | succ r ih =>
      intro h hh
      have r1 := R.run (t := h) (by omega)
      have := ih (h + 1) (by omega)
      rw [smR] at this
      refine run 60 [4] _ _ _ _ ?_
      refine And.intro rfl (And.intro rfl ?_)
      refine And.intro ⟨⟨by omega, by omega⟩, ⟨by omega, by omega⟩⟩ (And.intro (fun c1 => absurd c1 (by omega)) (fun _ => ?_))
      refine And.intro rfl (And.intro ⟨rfl, by omega, by omega⟩ ?_)
      refine And.intro ?_ trivial
      rw [Int.toNat_natCast, r1.1, show (h : Int) + 1 = ((h + 1 : Nat) : Int) by omega]
      exact this
  change aw 0 [some (.inr (.inr 1)), none, none] [] M0
  refine run 60 [4] _ _ _ _ ?_
  exact And.intro (loop (n.1 + 5) 0 (by omega)) trivial
theorem imX1_usedCells {l : Launch} {Z : ZT} (hZ : ZOk Z) : Impl l Z yX1_usedCells cX1_usedCells 3 (some .int) 1 (c_used (zN Z)) := mkImpl (rt := 1) (CL := []) hZ.1 hZ.2.1 (by decide +kernel) kX1_usedCells fwX1 iwX1 lwX1 trivial (Nat.le_of_ble_eq_true rfl) (fun q h => absurd h List.not_mem_nil) ((v_used (zN Z)))
theorem gX7_132 {l : Launch} {Z : ZT} (hZ : ZOk Z) {d : Nat} (hd : 2 ≤ d) : CallI l Z RX7 d (132, some 1, (c_used (zN Z))) := fun p e s m args below meth c Q cc nL x0 X => callOk_V X (imX1_usedCells hZ) (by decide) rfl mlX7_132 iw_yX1_usedCells vw_yX1_usedCells nw_RX1 cw_yX1_usedCells ⟨by decide +kernel, by decide +kernel, show (parseMethodDescriptor yX1_usedCells.desc).map (fun d => d.parameters.length) = some 0 by decide +kernel⟩ ⟨hd, by decide⟩
theorem XN.mx {n : Nn} {M : Mem} {tk k : Nat} {q : RS} (R : XN n M tk q) (hk : k ≤ n.1 + 5) : 0 ≤ mxE q.1 q.2.1 k ∧ mxE q.1 q.2.1 k ≤ (n.2.1 : Int) := ⟨mxE_nn _ _ _, mxE_le (by omega) (fun t ht hr => ((R.run (t := t) (by omega)).2.2.2.2.2 hr).2)⟩
def c_highE (n : Nn) : Call := ⟨Nat × RS, 1, (fun (tk, q) vs M => vs = [.inr (.inr 1)] ∧ XN n M tk q), .inr (fun (_, q) _ M x M' => x = mxE q.1 q.2.1 (n.1 + 5) ∧ M' = M)⟩
theorem v_highE (n : Nn) : Ver tX1_highestEnd (fdX1, icX1, lcX1, [(32, none, c_max)]) 1 3 n (c_highE n) := by
  rintro ⟨tk, q⟩ vs M0 ⟨rfl, R⟩ aw run
  have b := R.n24
  have l3 : lnF n 3 = n.1 + 5 := rfl
  have l4 : lnF n 4 = n.1 + 5 := rfl
  have loop : ∀ r h : Nat, h + r = n.1 + 5 → aw 4 [some (.inr (.inr 1)), some (.inl (mxE q.1 q.2.1 h)), some (.inl (h : Int))] [] M0 := by
    intro r
    induction r with
    | zero =>
      intro h hh
      obtain rfl : h = n.1 + 5 := by omega
      refine run 60 [4] _ _ _ _ ?_
      refine And.intro rfl (And.intro rfl ?_)
      refine And.intro ⟨⟨by omega, by omega⟩, ⟨by omega, by omega⟩⟩ (And.intro (fun _ => ?_) (fun c2 => absurd c2 (by omega)))
      exact Or.inl ⟨rfl, rfl⟩
    | succ r ih =>
      intro h hh
      have r1 := R.run (t := h) (by omega)
      have m1 := R.mx (k := h) (by omega)
      have := ih (h + 1) (by omega)
      rw [mxE] at this
      refine run 60 [4] _ _ _ _ ?_
      refine And.intro rfl (And.intro rfl ?_)
      refine And.intro ⟨⟨by omega, by omega⟩, ⟨by omega, by omega⟩⟩ (And.intro (fun c1 => absurd c1 (by omega)) (fun _ => ?_))
      refine And.intro rfl (And.intro ⟨rfl, by omega, by omega⟩ ?_)
      conv => whnf
      rw [Int.toNat_natCast, r1.1]
      refine And.intro ⟨⟨by omega, by omega⟩, ⟨by omega, by omega⟩⟩ (And.intro (fun c1 => ?_) (fun c2 => ?_))
      · refine And.intro ?_ trivial
        rw [if_neg (by omega)] at this
        rw [show (h : Int) + 1 = ((h + 1 : Nat) : Int) by omega]
        exact this
      · have r2 := r1.2.2.2.2.2 (by omega)
        refine And.intro rfl (And.intro ⟨rfl, by omega, by omega⟩ (And.intro rfl (And.intro ⟨rfl, by omega, by omega⟩ ?_)))
        conv => whnf
        rw [Int.toNat_natCast, r1.1, r2.1]
        refine ⟨(mxE q.1 q.2.1 h, q.1 h + q.2.1 h), ⟨rfl, ⟨by omega, by omega⟩, ⟨by omega, by omega⟩⟩, ?_⟩
        rintro x M0 ⟨rfl, rfl⟩
        refine And.intro ?_ trivial
        rw [show (h : Int) + 1 = ((h + 1 : Nat) : Int) by omega]
        by_cases c : mxE q.1 q.2.1 h < q.1 h + q.2.1 h
        · rw [if_pos ⟨by omega, c⟩] at this
          rw [show max (mxE q.1 q.2.1 h) (q.1 h + q.2.1 h) = q.1 h + q.2.1 h by omega]
          exact this
        · rw [if_neg (fun z => c z.2)] at this
          rw [show max (mxE q.1 q.2.1 h) (q.1 h + q.2.1 h) = mxE q.1 q.2.1 h by omega]
          exact this
  change aw 0 [some (.inr (.inr 1)), none, none] [] M0
  refine run 60 [4] _ _ _ _ ?_
  exact And.intro (loop (n.1 + 5) 0 (by omega)) trivial
theorem imX1_highestEnd {l : Launch} {Z : ZT} (hZ : ZOk Z) : Impl l Z yX1_highestEnd cX1_highestEnd 3 (some .int) 2 (c_highE (zN Z)) := mkImpl (rt := 1) (CL := [(32, none, c_max)]) hZ.1 hZ.2.1 (by decide +kernel) kX1_highestEnd fwX1 iwX1 lwX1 trivial (Nat.le_of_ble_eq_true rfl) (List.forall_mem_cons.mpr ⟨gX1_32 hZ (by decide), fun q h => absurd h List.not_mem_nil⟩) ((v_highE (zN Z)))
theorem gX1_38 {l : Launch} {Z : ZT} (hZ : ZOk Z) {d : Nat} (hd : 3 ≤ d) : CallI l Z RX1 d (38, some 1, (c_highE (zN Z))) := fun p e s m args below meth c Q cc nL x0 X => callOk_V X (imX1_highestEnd hZ) (by decide) rfl mlX1_38 iw_yX1_highestEnd vw_yX1_highestEnd nw_RX1 cw_yX1_highestEnd ⟨by decide +kernel, by decide +kernel, show (parseMethodDescriptor yX1_highestEnd.desc).map (fun d => d.parameters.length) = some 0 by decide +kernel⟩ ⟨hd, by decide⟩
theorem gX7_135 {l : Launch} {Z : ZT} (hZ : ZOk Z) {d : Nat} (hd : 3 ≤ d) : CallI l Z RX7 d (135, some 1, (c_highE (zN Z))) := fun p e s m args below meth c Q cc nL x0 X => callOk_V X (imX1_highestEnd hZ) (by decide) rfl mlX7_135 iw_yX1_highestEnd vw_yX1_highestEnd nw_RX1 cw_yX1_highestEnd ⟨by decide +kernel, by decide +kernel, show (parseMethodDescriptor yX1_highestEnd.desc).map (fun d => d.parameters.length) = some 0 by decide +kernel⟩ ⟨hd, by decide⟩
def c_hasSp (n : Nn) : Call := ⟨Nat × RS × Int, 2, (fun (tk, q, k) vs M => vs = [.inr (.inr 1), .inl k] ∧ -200000 ≤ k ∧ k ≤ 200000 ∧ XN n M tk q), .inr (fun (_, q, k) _ M x M' => ((x = 1 ∧ mxE q.1 q.2.1 (n.1 + 5) + k ≤ (n.2.1 : Int)) ∨ (x = 0 ∧ ¬ mxE q.1 q.2.1 (n.1 + 5) + k ≤ (n.2.1 : Int))) ∧ M' = M)⟩
theorem v_hasSp (n : Nn) : Ver tX1_hasSpace (fdX1, icX1, lcX1, [(38, some 1, c_highE n)]) 2 2 n (c_hasSp n) := by
  rintro ⟨tk, q, k⟩ vs M0 ⟨rfl, hk1, hk2, R⟩ aw run
  have b := R.n24
  have l2 : lnF n 2 = n.2.1 := rfl
  have m1 := R.mx (Nat.le_refl _)
  change aw 0 [some (.inr (.inr 1)), some (.inl k)] [] M0
  refine run 60 [] _ _ _ _ ?_
  refine And.intro rfl ⟨(tk, q), ⟨rfl, R⟩, ?_⟩
  rintro x M0 ⟨rfl, rfl⟩
  refine And.intro rfl (And.intro rfl ?_)
  refine And.intro ⟨⟨by omega, by omega⟩, ⟨by omega, by omega⟩⟩ (And.intro (fun c1 => ?_) (fun c2 => ?_))
  · exact And.intro (Or.inl rfl) (Or.inl ⟨Or.inr ⟨rfl, by omega⟩, rfl⟩)
  · exact And.intro (Or.inr rfl) (Or.inl ⟨Or.inl ⟨rfl, by omega⟩, rfl⟩)
theorem imX1_hasSpace {l : Launch} {Z : ZT} (hZ : ZOk Z) : Impl l Z yX1_hasSpace cX1_hasSpace 2 (some .boolean) 3 (c_hasSp (zN Z)) := mkImpl (rt := 2) (CL := [(38, some 1, (c_highE (zN Z)))]) hZ.1 hZ.2.1 (by decide +kernel) kX1_hasSpace fwX1 iwX1 lwX1 trivial (Nat.le_of_ble_eq_true rfl) (List.forall_mem_cons.mpr ⟨gX1_38 hZ (by decide), fun q h => absurd h List.not_mem_nil⟩) ((v_hasSp (zN Z)))
theorem gX1_61 {l : Launch} {Z : ZT} (hZ : ZOk Z) {d : Nat} (hd : 4 ≤ d) : CallI l Z RX1 d (61, some 1, (c_hasSp (zN Z))) := fun p e s m args below meth c Q cc nL x0 X => callOk_V X (imX1_hasSpace hZ) (by decide) rfl mlX1_61 iw_yX1_hasSpace vw_yX1_hasSpace nw_RX1 cw_yX1_hasSpace ⟨by decide +kernel, by decide +kernel, show (parseMethodDescriptor yX1_hasSpace.desc).map (fun d => d.parameters.length) = some 1 by decide +kernel⟩ ⟨hd, by decide⟩
theorem gX7_274 {l : Launch} {Z : ZT} (hZ : ZOk Z) {d : Nat} (hd : 4 ≤ d) : CallI l Z RX7 d (274, some 1, (c_hasSp (zN Z))) := fun p e s m args below meth c Q cc nL x0 X => callOk_V X (imX1_hasSpace hZ) (by decide) rfl mlX7_274 iw_yX1_hasSpace vw_yX1_hasSpace nw_RX1 cw_yX1_hasSpace ⟨by decide +kernel, by decide +kernel, show (parseMethodDescriptor yX1_hasSpace.desc).map (fun d => d.parameters.length) = some 1 by decide +kernel⟩ ⟨hd, by decide⟩
def c_limbIn (n : Nn) : Call := ⟨Nat × RS × Int, 2, (fun (tk, q, i) vs M => vs = [.inr (.inr 1), .inl i] ∧ inR i ∧ XN n M tk q), .inr (fun (_, q, i) _ M x M' => x = celF n q i ∧ M' = M)⟩
theorem v_limbIn (n : Nn) : Ver tX1_limbIn (fdX1, icX1, lcX1, []) 1 3 n (c_limbIn n) := by
  rintro ⟨tk, q, i⟩ vs M0 ⟨rfl, hi, R⟩ aw run
  have b := R.n24
  have e := R.hd
  have l2 : lnF n 2 = n.2.1 := rfl
  have l3 : lnF n 3 = n.1 + 5 := rfl
  have l4 : lnF n 4 = n.1 + 5 := rfl
  unfold inR at hi
  have loop : ∀ r h : Nat, h + r = n.1 → clS q i r h = celF n q i → aw 2 [some (.inr (.inr 1)), some (.inl i), some (.inl (h : Int))] [] M0 := by
    intro r
    induction r with
    | zero =>
      intro h hh hc
      refine run 60 [2] _ _ _ _ ?_
      refine And.intro rfl ?_
      refine And.intro ⟨⟨by omega, by omega⟩, ⟨by omega, by omega⟩⟩ (And.intro (fun _ => ?_) (fun c2 => absurd c2 (by omega)))
      exact Or.inl ⟨hc, rfl⟩
    | succ r ih =>
      intro h hh hc
      have r1 := R.run (t := h) (by omega)
      rw [clS] at hc
      refine run 60 [2] _ _ _ _ ?_
      refine And.intro rfl ?_
      refine And.intro ⟨⟨by omega, by omega⟩, ⟨by omega, by omega⟩⟩ (And.intro (fun c1 => absurd c1 (by omega)) (fun _ => ?_))
      refine And.intro rfl (And.intro ⟨rfl, by omega, by omega⟩ ?_)
      conv => whnf
      rw [Int.toNat_natCast]
      refine And.intro ⟨⟨by omega, by omega⟩, ⟨by omega, by omega⟩⟩ (And.intro (fun c1 => ?_) (fun c2 => ?_))
      · refine And.intro ?_ trivial
        rw [if_neg (fun z => by have := r1.2.2.2.2.2 z.1; omega)] at hc
        rw [show (h : Int) + 1 = ((h + 1 : Nat) : Int) by omega]
        exact ih (h + 1) (by omega) hc
      refine And.intro rfl (And.intro ⟨rfl, by omega, by omega⟩ (And.intro rfl (And.intro ⟨rfl, by omega, by omega⟩ ?_)))
      conv => whnf
      rw [Int.toNat_natCast, r1.1]
      refine And.intro ⟨⟨by omega, by omega⟩, ⟨by omega, by omega⟩⟩ (And.intro (fun c1 => ?_) (fun c2 => ?_))
      · refine And.intro ?_ trivial
        rw [if_neg (fun z => by have := r1.2.2.2.2.2 z.1; omega)] at hc
        rw [show (h : Int) + 1 = ((h + 1 : Nat) : Int) by omega]
        exact ih (h + 1) (by omega) hc
      · have pr : 0 < q.2.1 h := by omega
        have a := R.at (h := h) (by omega) pr
        rw [if_pos ⟨pr, by omega, by omega⟩] at hc
        refine And.intro rfl (And.intro ⟨rfl, by omega, by omega⟩ (Or.inl ⟨?_, rfl⟩))
        show M0 2 i.toNat = celF n q i
        have a8 := a.2.2.2.2.2.2.2 (i - q.1 h).toNat (by omega)
        rw [show (q.1 h).toNat + (i - q.1 h).toNat = i.toNat by omega] at a8
        rw [← hc, a8]
        unfold dgZ
        rw [if_neg (by omega)]
  change aw 0 [some (.inr (.inr 1)), some (.inl i), none] [] M0
  refine run 60 [2] _ _ _ _ ?_
  exact And.intro (loop n.1 0 (by omega) rfl) trivial
theorem imX1_limbIn {l : Launch} {Z : ZT} (hZ : ZOk Z) : Impl l Z yX1_limbIn cX1_limbIn 3 (some .int) 1 (c_limbIn (zN Z)) := mkImpl (rt := 1) (CL := []) hZ.1 hZ.2.1 (by decide +kernel) kX1_limbIn fwX1 iwX1 lwX1 trivial (Nat.le_of_ble_eq_true rfl) (fun q h => absurd h List.not_mem_nil) ((v_limbIn (zN Z)))
theorem gX7_157 {l : Launch} {Z : ZT} (hZ : ZOk Z) {d : Nat} (hd : 2 ≤ d) : CallI l Z RX7 d (157, some 1, (c_limbIn (zN Z))) := fun p e s m args below meth c Q cc nL x0 X => callOk_V X (imX1_limbIn hZ) (by decide) rfl mlX7_157 iw_yX1_limbIn vw_yX1_limbIn nw_RX1 cw_yX1_limbIn ⟨by decide +kernel, by decide +kernel, show (parseMethodDescriptor yX1_limbIn.desc).map (fun d => d.parameters.length) = some 1 by decide +kernel⟩ ⟨hd, by decide⟩
def c_limbOf (n : Nn) : Call := ⟨Nat × RS × Nat × Int, 3, (fun (tk, q, h, i) vs M => vs = [.inr (.inr 1), .inl (h : Int), .inl i] ∧ inR i ∧ h < n.1 ∧ 0 < q.2.1 h ∧ XN n M tk q), .inr (fun (_, q, h, i) _ M x M' => x = dgZ (q.2.2.2 h) i ∧ M' = M)⟩
theorem v_limbOf (n : Nn) : Ver tX1_limbOf (fdX1, icX1, lcX1, []) 1 3 n (c_limbOf n) := by
  rintro ⟨tk, q, h, i⟩ vs M0 ⟨rfl, hi, h1, h2, R⟩ aw run
  have b := R.n24
  have l2 : lnF n 2 = n.2.1 := rfl
  have l3 : lnF n 3 = n.1 + 5 := rfl
  have l5 : lnF n 5 = n.1 := rfl
  unfold inR at hi
  have a := R.at h1 h2
  change aw 0 [some (.inr (.inr 1)), some (.inl (h : Int)), some (.inl i)] [] M0
  refine run 60 [] _ _ _ _ ?_
  refine And.intro ⟨⟨by omega, by omega⟩, ⟨by omega, by omega⟩⟩ (And.intro (fun c1 => ?_) (fun c2 => ?_))
  · exact Or.inl ⟨(dgZ_neg (by omega)).symm, rfl⟩
  refine And.intro rfl (And.intro ⟨rfl, by omega, by omega⟩ ?_)
  conv => whnf
  rw [Int.toNat_natCast, a.2.2.2.2.1]
  refine And.intro ⟨⟨by omega, by omega⟩, ⟨by omega, by omega⟩⟩ (And.intro (fun c1 => ?_) (fun c2 => ?_))
  · refine Or.inl ⟨?_, rfl⟩
    show 0 = dgZ (q.2.2.2 h) i
    unfold dgZ
    rw [if_neg (by omega), dg_z (by omega)]
    rfl
  refine And.intro rfl (And.intro rfl (And.intro ⟨rfl, by omega, by omega⟩ ?_))
  conv => whnf
  rw [Int.toNat_natCast, a.2.1]
  refine And.intro ⟨rfl, by omega, by omega⟩ (Or.inl ⟨?_, rfl⟩)
  show M0 2 (q.1 h + i).toNat = dgZ (q.2.2.2 h) i
  have a8 := a.2.2.2.2.2.2.2 i.toNat (by omega)
  rw [show (q.1 h).toNat + i.toNat = (q.1 h + i).toNat by omega] at a8
  rw [a8]
  unfold dgZ
  rw [if_neg (by omega)]
theorem imX1_limbOf {l : Launch} {Z : ZT} (hZ : ZOk Z) : Impl l Z yX1_limbOf cX1_limbOf 3 (some .int) 1 (c_limbOf (zN Z)) := mkImpl (rt := 1) (CL := []) hZ.1 hZ.2.1 (by decide +kernel) kX1_limbOf fwX1 iwX1 lwX1 trivial (Nat.le_of_ble_eq_true rfl) (fun q h => absurd h List.not_mem_nil) ((v_limbOf (zN Z)))
theorem gX7_123 {l : Launch} {Z : ZT} (hZ : ZOk Z) {d : Nat} (hd : 2 ≤ d) : CallI l Z RX7 d (123, some 1, (c_limbOf (zN Z))) := fun p e s m args below meth c Q cc nL x0 X => callOk_V X (imX1_limbOf hZ) (by decide) rfl mlX7_123 iw_yX1_limbOf vw_yX1_limbOf nw_RX1 cw_yX1_limbOf ⟨by decide +kernel, by decide +kernel, show (parseMethodDescriptor yX1_limbOf.desc).map (fun d => d.parameters.length) = some 2 by decide +kernel⟩ ⟨hd, by decide⟩
def c_readX (n : Nn) : Call := ⟨Nat × RS × Nat × Nat, 3, (fun (tk, q, h, r) vs M => vs = [.inr (.inr 1), .inl (h : Int), .inr (.inr r)] ∧ isRw r ∧ h < n.1 ∧ 0 < q.2.1 h ∧ XN n M tk q), .inl (fun (_, q, h, r) _ M M' => XR M' r (q.2.2.2 h) ∧ FrX M M' r)⟩
theorem v_readX (n : Nn) : Ver tX1_read (fdX1, icX1, lcX1, [(45, none, cpC n)]) 0 3 n (c_readX n) := by
  rintro ⟨tk, q, h, r⟩ vs M0 ⟨rfl, hr, h1, h2, R⟩ aw run
  have b := R.n24
  have l2 : lnF n 2 = n.2.1 := rfl
  have l3 : lnF n 3 = n.1 + 5 := rfl
  have l5 : lnF n 5 = n.1 := rfl
  have hl := hr.ln n
  have a := R.at h1 h2
  change aw 0 [some (.inr (.inr 1)), some (.inl (h : Int)), some (.inr (.inr r))] [] M0
  refine run 60 [] _ _ _ _ ?_
  refine And.intro rfl (And.intro rfl (And.intro ⟨rfl, by omega, by omega⟩ (And.intro hr.kd (And.intro rfl (And.intro ⟨rfl, by omega, by omega⟩ ?_)))))
  conv => whnf
  rw [Int.toNat_natCast, a.2.1, a.2.2.2.2.1]
  refine ⟨(), ⟨rfl, hr.ka, by omega, by omega, by omega, by omega, by omega⟩, ?_⟩
  rintro M1 hM
  change M1 = va_up M0 (r + 1) (va_cpy (M0 2) (M0 (r + 1)) (q.1 h).toNat ((0 : Int)).toNat ((nd (q.2.2.2 h) : Int)).toNat) at hM
  have k5 : M1 5 h = (nd (q.2.2.2 h) : Int) := by
    rw [hM, va_up_ne _ _ (by omega)]
    exact a.2.2.2.2.1
  refine And.intro rfl (And.intro ⟨rfl, by omega, by omega⟩ (And.intro hr.kd (Or.inl ?_)))
  show XR (up2 M1 r 1 (M1 5 (h : Int).toNat)) r (q.2.2.2 h) ∧ FrX M0 (up2 M1 r 1 (M1 5 (h : Int).toNat)) r
  rw [Int.toNat_natCast, k5]
  refine ⟨⟨up2_s, fun i hi => ?_⟩, fun o p s => ?_⟩
  · show up2 M1 r 1 (nd (q.2.2.2 h) : Int) (r + 1) i = _
    rw [up2_i (by omega), hM, va_up_self, Int.toNat_natCast]
    have := cpy_in (f := M0 2) (g := M0 (r + 1)) (sp := (q.1 h).toNat) (dp := 0) (k := nd (q.2.2.2 h)) (i := i) (Nat.zero_le _) (by omega)
    rw [Nat.sub_zero] at this
    exact this.trans (a.2.2.2.2.2.2.2 i (by omega))
  · rw [up2_i p, hM, va_up_ne _ _ s]
theorem imX1_read {l : Launch} {Z : ZT} (hZ : ZOk Z) : Impl l Z yX1_read cX1_read 3 none 2 (c_readX (zN Z)) := mkImpl (rt := 0) (CL := [(45, none, cpC (zN Z))]) hZ.1 hZ.2.1 (by decide +kernel) kX1_read fwX1 iwX1 lwX1 trivial (Nat.le_of_ble_eq_true rfl) (List.forall_mem_cons.mpr ⟨gcp_X1 hZ (by decide), fun q h => absurd h List.not_mem_nil⟩) ((v_readX (zN Z)))
theorem gX7_113 {l : Launch} {Z : ZT} (hZ : ZOk Z) {d : Nat} (hd : 3 ≤ d) : CallI l Z RX7 d (113, some 1, (c_readX (zN Z))) := fun p e s m args below meth c Q cc nL x0 X => callOk_V X (imX1_read hZ) (by decide) rfl mlX7_113 iw_yX1_read vw_yX1_read nw_RX1 cw_yX1_read ⟨by decide +kernel, by decide +kernel, show (parseMethodDescriptor yX1_read.desc).map (fun d => d.parameters.length) = some 2 by decide +kernel⟩ ⟨hd, by decide⟩
