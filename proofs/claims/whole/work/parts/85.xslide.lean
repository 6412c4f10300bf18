/-! ===== the class: runs slid together, and taken ===== -/
def c_drop (n : Nn) : Call := ⟨Nat × RS, 1, (fun (tk, q) vs M => vs = [.inr (.inr 1)] ∧ XN n M tk q), .inl (fun (_, q) _ M M' => XN n M' 0 (drR n q) ∧ FXN M M')⟩
theorem XN.drop {n : Nn} {M M' : Mem} {tk : Nat} {q : RS} (R : XN n M tk q) (h1 : M' 1 0 = M 1 0 ∧ M' 1 5 = 0 ∧ M' 1 6 = M 1 6) (h2 : M' 2 = M 2) (h3 : M' 3 = M 3) (h5 : M' 5 = M 5) (h4 : ∀ t, t < n.1 → M' 4 t = M 4 t) (h4z : ∀ t, n.1 ≤ t → t < n.1 + 5 → M' 4 t = 0) : XN n M' 0 (drR n q) := by
  obtain ⟨r1, r2, r3, r4, r5, r6, r7⟩ := R
  have er : ∀ t, (drR n q).2.1 t = if t < n.1 then q.2.1 t else 0 := fun t => rfl
  refine ⟨⟨r1.1, r1.2.1, r1.2.2.1, r1.2.2.2.1, by omega⟩, ⟨h1.1.trans r2.1, h1.2.1, h1.2.2.trans r2.2.2⟩, fun t ht => ?_, fun t a b => ?_, fun t u ht hu hne a b => ?_, fun h a b => ?_, fun h a b => ?_⟩
  · have r := r3 t ht
    rw [er, h3]
    by_cases c : t < n.1
    · rw [if_pos c, h4 t c]
      exact r
    · rw [if_neg c, h4z t (by omega) ht]
      exact ⟨rfl, Int.le_refl _, r.2.2.1, r.2.2.2.1, fun z => by omega⟩
  · rw [er, if_neg (by omega)]
  · rw [er] at a b ⊢
    rw [er]
    by_cases c : t < n.1
    · by_cases d : u < n.1
      · rw [if_pos c] at a ⊢
        rw [if_pos d] at b ⊢
        exact r5 t u ht hu hne a b
      · rw [if_neg d] at b
        omega
    · rw [if_neg c] at a
      omega
  · rw [er, if_pos a] at b ⊢
    exact r6 h a b
  · rw [er, if_pos a] at b ⊢
    rw [h5, h2]
    exact r7 h a b
theorem v_drop (n : Nn) : Ver tX1_dropTaken (fdX1, icX1, lcX1, []) 0 2 n (c_drop n) := by
  rintro ⟨tk, q⟩ vs M0 ⟨rfl, R⟩ aw run
  have b := R.n24
  have e := R.hd
  have l4 : lnF n 4 = n.1 + 5 := rfl
  have loop : ∀ (r t : Nat) (M : Mem), t + r = n.1 + 5 → n.1 ≤ t → (∀ o, o ≠ 4 → M o = M0 o) → (∀ u, u < n.1 → M 4 u = M0 4 u) → (∀ u, n.1 ≤ u → u < t → M 4 u = 0) → aw 5 [some (.inr (.inr 1)), some (.inl (t : Int))] [] M := by
    intro r
    induction r with
    | zero =>
      intro t M ht hn hF h1 h2
      refine run 60 [5] _ _ _ _ ?_
      refine And.intro rfl (And.intro rfl ?_)
      refine And.intro ⟨⟨by omega, by omega⟩, ⟨by omega, by omega⟩⟩ (And.intro (fun _ => ?_) (fun c2 => absurd c2 (by omega)))
      refine And.intro rfl (Or.inl ?_)
      refine ⟨R.drop ⟨?_, up2_s, ?_⟩ ?_ ?_ ?_ (fun u hu => ?_) (fun u hu1 hu2 => ?_), fun o ho => ?_⟩
      · rw [up2_k (by decide), hF 1 (by decide)]
      · rw [up2_k (by decide), hF 1 (by decide)]
      · rw [up2_i (by decide), hF 2 (by decide)]
      · rw [up2_i (by decide), hF 3 (by decide)]
      · rw [up2_i (by decide), hF 5 (by decide)]
      · rw [up2_i (by decide)]
        exact h1 u hu
      · rw [up2_i (by decide)]
        exact h2 u hu1 (by omega)
      · show up2 M 1 5 0 o = M0 o
        rw [up2_i (by omega), hF o (by omega)]
    | succ r ih =>
      intro t M ht hn hF h1 h2
      refine run 60 [5] _ _ _ _ ?_
      refine And.intro rfl (And.intro rfl ?_)
      refine And.intro ⟨⟨by omega, by omega⟩, ⟨by omega, by omega⟩⟩ (And.intro (fun c1 => absurd c1 (by omega)) (fun _ => ?_))
      refine And.intro rfl (And.intro ⟨rfl, by omega, by omega⟩ (And.intro ?_ trivial))
      rw [show (t : Int) + 1 = ((t + 1 : Nat) : Int) by omega, Int.toNat_natCast]
      refine ih (t + 1) _ (by omega) (by omega) (fun o ho => by rw [up2_i ho]; exact hF o ho) (fun u hu => by rw [up2_k (by omega)]; exact h1 u hu) (fun u hu1 hu2 => ?_)
      by_cases c : u = t
      · rw [c, up2_s]
      · rw [up2_k c]
        exact h2 u hu1 (by omega)
  change aw 0 [some (.inr (.inr 1)), none] [] M0
  refine run 60 [5] _ _ _ _ ?_
  refine And.intro rfl (And.intro ?_ trivial)
  rw [e.1]
  exact loop 5 n.1 M0 rfl (Nat.le_refl _) (fun _ _ => rfl) (fun _ _ => rfl) (fun u h1 h2 => by omega)
theorem imX1_dropTaken {l : Launch} {Z : ZT} (hZ : ZOk Z) : Impl l Z yX1_dropTaken cX1_dropTaken 2 none 1 (c_drop (zN Z)) := mkImpl (rt := 0) (CL := []) hZ.1 hZ.2.1 (by decide +kernel) kX1_dropTaken fwX1 iwX1 lwX1 trivial (Nat.le_of_ble_eq_true rfl) (fun q h => absurd h List.not_mem_nil) ((v_drop (zN Z)))
theorem gX1_67 {l : Launch} {Z : ZT} (hZ : ZOk Z) {d : Nat} (hd : 2 ≤ d) : CallI l Z RX1 d (67, some 1, (c_drop (zN Z))) := fun p e s m args below meth c Q cc nL x0 X => callOk_V X (imX1_dropTaken hZ) (by decide) rfl mlX1_67 iw_yX1_dropTaken vw_yX1_dropTaken nw_RX1 cw_yX1_dropTaken ⟨by decide +kernel, by decide +kernel, show (parseMethodDescriptor yX1_dropTaken.desc).map (fun d => d.parameters.length) = some 0 by decide +kernel⟩ ⟨hd, by decide⟩
theorem gX7_212 {l : Launch} {Z : ZT} (hZ : ZOk Z) {d : Nat} (hd : 2 ≤ d) : CallI l Z RX7 d (212, some 1, (c_drop (zN Z))) := fun p e s m args below meth c Q cc nL x0 X => callOk_V X (imX1_dropTaken hZ) (by decide) rfl mlX7_212 iw_yX1_dropTaken vw_yX1_dropTaken nw_RX1 cw_yX1_dropTaken ⟨by decide +kernel, by decide +kernel, show (parseMethodDescriptor yX1_dropTaken.desc).map (fun d => d.parameters.length) = some 0 by decide +kernel⟩ ⟨hd, by decide⟩
/-- lowestRunFrom(p) -/
def c_lowR (n : Nn) : Call := ⟨Int × Nat, 2, (fun (p, _) vs M => vs = [.inr (.inr 1), .inl p] ∧ 0 ≤ p ∧ p ≤ 800 ∧ 1 ≤ n.1 ∧ n.1 ≤ 24 ∧ ∀ t, t < n.1 + 5 → 0 ≤ M 4 t ∧ M 4 t ≤ 800 ∧ 0 ≤ M 3 t ∧ M 3 t ≤ 800), .inr (fun (p, _) _ M x M' => ((x = -1 ∧ ∀ t, t < n.1 + 5 → ¬ (0 < M 4 t ∧ p ≤ M 3 t)) ∨ ∃ r : Nat, x = (r : Int) ∧ r < n.1 + 5 ∧ 0 < M 4 r ∧ p ≤ M 3 r ∧ ∀ t, t < n.1 + 5 → 0 < M 4 t → p ≤ M 3 t → M 3 r ≤ M 3 t) ∧ M' = M)⟩
theorem v_lowR (n : Nn) : Ver tX1_lowestRunFrom (fdX1, icX1, lcX1, []) 1 5 n (c_lowR n) := by
  rintro ⟨p, z⟩ vs M0 ⟨rfl, hp1, hp2, hn1, hn2, hT⟩ aw run
  have l3 : lnF n 3 = n.1 + 5 := rfl
  have l4 : lnF n 4 = n.1 + 5 := rfl
  have loop : ∀ (r t : Nat) (lo : Int) (o4 : Option AV), t + r = n.1 + 5 → ((lo = -1 ∧ ∀ u, u < t → ¬ (0 < M0 4 u ∧ p ≤ M0 3 u)) ∨ ∃ r : Nat, lo = (r : Int) ∧ r < t ∧ 0 < M0 4 r ∧ p ≤ M0 3 r ∧ ∀ u, u < t → 0 < M0 4 u → p ≤ M0 3 u → M0 3 r ≤ M0 3 u) → aw 4 [some (.inr (.inr 1)), some (.inl p), some (.inl lo), some (.inl (t : Int)), o4] [] M0 := by
    intro r
    induction r with
    | zero =>
      intro t lo o4 ht hI
      obtain rfl : t = n.1 + 5 := by omega
      refine run 60 [4] _ _ _ _ ?_
      refine And.intro rfl (And.intro rfl ?_)
      refine And.intro ⟨⟨by omega, by omega⟩, ⟨by omega, by omega⟩⟩ (And.intro (fun _ => ?_) (fun c2 => absurd c2 (by omega)))
      exact Or.inl ⟨hI, rfl⟩
    | succ r ih =>
      intro t lo o4 ht hI
      have ht0 := hT t (by omega)
      have skip : ¬ (0 < M0 4 t ∧ p ≤ M0 3 t ∧ (lo = -1 ∨ M0 3 t < M0 3 lo.toNat)) → ∀ o4 : Option AV, aw 66 [some (.inr (.inr 1)), some (.inl p), some (.inl lo), some (.inl (t : Int)), o4] [] M0 := by
        intro hn o4
        refine run 60 [4] _ _ _ _ ?_
        refine And.intro ?_ trivial
        rw [show (t : Int) + 1 = ((t + 1 : Nat) : Int) by omega]
        refine ih (t + 1) lo o4 (by omega) ?_
        rcases hI with ⟨h1, h2⟩ | ⟨r, h1, h2, h3, h4, h5⟩
        · refine Or.inl ⟨h1, fun u hu c => ?_⟩
          by_cases e : u = t
          · subst e
            exact hn ⟨c.1, c.2, Or.inl h1⟩
          · exact h2 u (by omega) c
        · refine Or.inr ⟨r, h1, by omega, h3, h4, fun u hu c1 c2 => ?_⟩
          by_cases e : u = t
          · subst e
            refine Int.not_lt.mp (fun c3 => hn ⟨c1, c2, Or.inr ?_⟩)
            rw [h1]
            exact c3
          · exact h5 u (by omega) c1 c2
      have put : 0 < M0 4 t → p ≤ M0 3 t → (lo = -1 ∨ M0 3 t < M0 3 lo.toNat) → ∀ o4 : Option AV, aw 64 [some (.inr (.inr 1)), some (.inl p), some (.inl lo), some (.inl (t : Int)), o4] [] M0 := by
        intro c1 c2 c3 o4
        refine run 60 [4] _ _ _ _ ?_
        refine And.intro ?_ trivial
        rw [show (t : Int) + 1 = ((t + 1 : Nat) : Int) by omega]
        refine ih (t + 1) _ o4 (by omega) (Or.inr ⟨t, rfl, by omega, c1, c2, fun u hu d1 d2 => ?_⟩)
        by_cases e : u = t
        · subst e
          exact Int.le_refl _
        · rcases hI with ⟨h1, h2⟩ | ⟨r, h1, h2, h3, h4, h5⟩
          · exact absurd ⟨d1, d2⟩ (h2 u (by omega))
          · have := h5 u (by omega) d1 d2
            rcases c3 with c3 | c3
            · omega
            · rw [h1, Int.toNat_natCast] at c3
              omega
      refine run 60 [4, 64, 66] _ _ _ _ ?_
      refine And.intro rfl (And.intro rfl ?_)
      refine And.intro ⟨⟨by omega, by omega⟩, ⟨by omega, by omega⟩⟩ (And.intro (fun c1 => absurd c1 (by omega)) (fun _ => ?_))
      refine And.intro rfl (And.intro ⟨rfl, by omega, by omega⟩ ?_)
      conv => whnf
      rw [Int.toNat_natCast]
      refine And.intro ⟨⟨by omega, by omega⟩, ⟨by omega, by omega⟩⟩ (And.intro (fun c1 => ?_) (fun c2 => ?_))
      · refine And.intro ⟨⟨by omega, by omega⟩, ⟨by omega, by omega⟩⟩ (And.intro (fun _ => ?_) (fun c2 => absurd c2 (by omega)))
        exact And.intro (skip (fun z => by omega) _) trivial
      refine And.intro rfl (And.intro ⟨rfl, by omega, by omega⟩ ?_)
      conv => whnf
      rw [Int.toNat_natCast]
      refine And.intro ⟨⟨by omega, by omega⟩, ⟨by omega, by omega⟩⟩ (And.intro (fun c1 => ?_) (fun c2 => ?_))
      · refine And.intro ⟨⟨by omega, by omega⟩, ⟨by omega, by omega⟩⟩ (And.intro (fun _ => ?_) (fun c2 => absurd c2 (by omega)))
        exact And.intro (skip (fun z => by omega) _) trivial
      refine And.intro ⟨⟨by omega, by omega⟩, ⟨by omega, by omega⟩⟩ (And.intro (fun c1 => absurd c1 (by omega)) (fun _ => ?_))
      rcases hI with ⟨h1, h2⟩ | ⟨r, h1, h2, h3, h4, h5⟩
      · subst h1
        refine And.intro ⟨⟨by omega, by omega⟩, ⟨by omega, by omega⟩⟩ (And.intro (fun _ => ?_) (fun c2 => absurd c2 (by omega)))
        exact And.intro (put (by omega) (by omega) (Or.inl rfl) _) trivial
      · subst h1
        have hr := hT r (by omega)
        refine And.intro ⟨⟨by omega, by omega⟩, ⟨by omega, by omega⟩⟩ (And.intro (fun c1 => absurd c1 (by omega)) (fun _ => ?_))
        refine And.intro rfl (And.intro ⟨rfl, by omega, by omega⟩ (And.intro rfl (And.intro ⟨rfl, by omega, by omega⟩ ?_)))
        conv => whnf
        rw [Int.toNat_natCast, Int.toNat_natCast]
        refine And.intro ⟨⟨by omega, by omega⟩, ⟨by omega, by omega⟩⟩ (And.intro (fun c1 => ?_) (fun c2 => ?_))
        · exact And.intro (skip (fun z => by have := z.2.2; rw [Int.toNat_natCast] at this; omega) _) trivial
        · exact And.intro (put (by omega) (by omega) (Or.inr (by rw [Int.toNat_natCast]; omega)) _) trivial
  change aw 0 [some (.inr (.inr 1)), some (.inl p), none, none, none] [] M0
  refine run 60 [4] _ _ _ _ ?_
  exact And.intro (loop (n.1 + 5) 0 (-1) none (by omega) (Or.inl ⟨rfl, fun u hu => by omega⟩)) trivial
theorem imX1_lowestRunFrom {l : Launch} {Z : ZT} (hZ : ZOk Z) : Impl l Z yX1_lowestRunFrom cX1_lowestRunFrom 5 (some .int) 1 (c_lowR (zN Z)) := mkImpl (rt := 1) (CL := []) hZ.1 hZ.2.1 (by decide +kernel) kX1_lowestRunFrom fwX1 iwX1 lwX1 trivial (Nat.le_of_ble_eq_true rfl) (fun q h => absurd h List.not_mem_nil) ((v_lowR (zN Z)))
theorem gX1_73 {l : Launch} {Z : ZT} (hZ : ZOk Z) {d : Nat} (hd : 2 ≤ d) : CallI l Z RX1 d (73, some 1, (c_lowR (zN Z))) := fun p e s m args below meth c Q cc nL x0 X => callOk_V X (imX1_lowestRunFrom hZ) (by decide) rfl mlX1_73 iw_yX1_lowestRunFrom vw_yX1_lowestRunFrom nw_RX1 cw_yX1_lowestRunFrom ⟨by decide +kernel, by decide +kernel, show (parseMethodDescriptor yX1_lowestRunFrom.desc).map (fun d => d.parameters.length) = some 1 by decide +kernel⟩ ⟨hd, by decide⟩
/-- how far the class's sliding has come: k runs, those with places below x, are done, and end at y -/
def SlX (K : Nat) (M1 M : Mem) (pl rm : Nat → Int) (k : Nat) (x y : Int) : Prop :=
  (∀ o, o ≠ 2 → o ≠ 3 → M o = M1 o) ∧ (∀ t, t < K → ¬ (0 < rm t ∧ pl t < x) → M 3 t = M1 3 t) ∧ (∀ t, t < K → 0 < rm t → pl t < x → M 3 t = sumB pl rm K (pl t) ∧ 0 ≤ M 3 t ∧ M 3 t ≤ pl t ∧ M 3 t + rm t ≤ y) ∧ y = sumB pl rm K x ∧ 0 ≤ y ∧ y ≤ x ∧ (k : Int) = sumB pl (fun t => if 0 < rm t then 1 else 0) K x ∧ (∀ t, t < K → 0 < rm t → ∀ i : Nat, (i : Int) < rm t → M 2 ((M 3 t).toNat + i) = M1 2 ((pl t).toNat + i))
theorem sumB_cnt {pl rm : Nat → Int} {x : Int} (K : Nat) : sumB pl (fun t => if 0 < rm t then 1 else 0) K x ≤ (K : Int) := by
  induction K with
  | zero => exact Int.le_refl 0
  | succ K ih =>
    unfold sumB
    have : (if 0 < (if 0 < rm K then (1 : Int) else 0) ∧ pl K < x then (if 0 < rm K then (1 : Int) else 0) else 0) ≤ 1 := by
      split
      · split <;> omega
      · omega
    omega
theorem SlX.move {K : Nat} {M1 M M2 : Mem} {pl rm : Nat → Int} {k r : Nat} {x y : Int} (h : SlX K M1 M pl rm k x y) (hd : Dj pl rm K) (hpl : ∀ t, t < K → 0 < rm t → 0 ≤ pl t ∧ M1 3 t = pl t) (hr : r < K) (hr0 : 0 < rm r) (hx : x ≤ pl r) (hmin : ∀ t, t < K → 0 < rm t → x ≤ pl t → pl r ≤ pl t)
    (hM : ∀ o, o ≠ 2 → o ≠ 3 → M2 o = M o) (h3 : M2 3 = va_up (M 3) r y) (h2 : M2 2 = va_cpy (M 2) (M 2) (pl r).toNat y.toNat (rm r).toNat) : SlX K M1 M2 pl rm (k + 1) (pl r + rm r) (y + rm r) := by
  obtain ⟨a1, a2, a3, a4, a5, a6, a7, a8⟩ := h
  have hoth : ∀ u, u < K → u ≠ r → 0 < rm u → (pl u < pl r + rm r ↔ pl u < x) := by
    intro u hu hne hru
    constructor
    · intro c
      refine Int.not_le.mp (fun d => ?_)
      have := hmin u hu hru d
      rcases hd r u hr hu (fun e => hne e.symm) hr0 hru with q | q <;> omega
    · intro c
      omega
  have hpr := hpl r hr hr0
  have s1 : sumB pl rm K (pl r + rm r) = sumB pl rm K x + rm r := sumB_one hr hr0 (by omega) (by omega) hoth
  have s2 : sumB pl (fun t => if 0 < rm t then 1 else 0) K (pl r + rm r) = sumB pl (fun t => if 0 < rm t then 1 else 0) K x + 1 := by
    have := sumB_one (rm := fun t => if 0 < rm t then 1 else 0) (pl := pl) (x := x) (x2 := pl r + rm r) hr (by rw [if_pos hr0]; omega) (by omega) (by omega) (fun u hu hne hru => hoth u hu hne (by
      by_cases c : 0 < rm u
      · exact c
      · rw [if_neg c] at hru
        omega))
    rw [if_pos hr0] at this
    exact this
  have s3 : sumB pl rm K (pl r) = sumB pl rm K x := sumB_same (fun u hu hru => by
    by_cases e : u = r
    · subst e
      omega
    · have := hoth u hu e hru
      constructor
      · intro c
        exact this.mp (by omega)
      · intro c
        omega)
  refine ⟨fun o p q => (hM o p q).trans (a1 o p q), fun t ht hn => ?_, fun t ht hrt hpt => ?_, by omega, by omega, by omega, by omega, fun t ht hrt i hi => ?_⟩
  · have ne : t ≠ r := fun e => hn ⟨by rw [e]; exact hr0, by rw [e]; omega⟩
    rw [h3, va_up_ne _ _ ne]
    exact a2 t ht (fun z => hn ⟨z.1, by omega⟩)
  · by_cases e : t = r
    · subst e
      rw [h3, va_up_self, s3]
      exact ⟨a4, a5, by omega, by omega⟩
    · rw [h3, va_up_ne _ _ e]
      have := a3 t ht hrt ((hoth t ht e hrt).mp hpt)
      exact ⟨this.1, this.2.1, this.2.2.1, by omega⟩
  · by_cases e : t = r
    · subst e
      have a := a8 t ht hrt i hi
      have b := a2 t ht (fun z => by omega)
      rw [hpr.2] at b
      rw [b] at a
      rw [h3, va_up_self, h2, cpy_in (by omega) (by omega), show (pl t).toNat + (y.toNat + i - y.toNat) = (pl t).toNat + i by omega]
      exact a
    · rw [h3, va_up_ne _ _ e]
      have a := a8 t ht hrt i hi
      by_cases c : pl t < x
      · have := a3 t ht hrt c
        rw [h2, cpy_out (by omega)]
        exact a
      · have b := a2 t ht (fun z => by omega)
        rw [(hpl t ht hrt).2] at b
        have m := hmin t ht hrt (by omega)
        rw [b] at a ⊢
        rw [h2, cpy_out ?_]
        · exact a
        · rcases hd r t hr ht (fun z => e z.symm) hr0 hrt with q | q <;> omega
def c_slideX (n : Nn) : Call := ⟨Nat × RS, 1, (fun (tk, q) vs M => vs = [.inr (.inr 1)] ∧ XN n M tk q), .inl (fun (tk, q) _ M M' => XN n M' tk (sldR n q) ∧ FXN M M')⟩
theorem v_slideX (n : Nn) : Ver tX1_slideTogether (fdX1, icX1, lcX1, [(73, some 1, c_lowR n), (45, none, cpC n)]) 0 4 n (c_slideX n) := by
  rintro ⟨tk, q⟩ vs M0 ⟨rfl, R⟩ aw run
  have b := R.n24
  have e := R.hd
  have l2 : lnF n 2 = n.2.1 := rfl
  have l3 : lnF n 3 = n.1 + 5 := rfl
  have l4 : lnF n 4 = n.1 + 5 := rfl
  obtain ⟨M1, eM1⟩ : ∃ M1, M1 = up2 M0 1 6 (M0 1 6 + 1) := ⟨_, rfl⟩
  have m3 : M1 3 = M0 3 := by rw [eM1, up2_i (by decide)]
  have m4 : M1 4 = M0 4 := by rw [eM1, up2_i (by decide)]
  have m2 : M1 2 = M0 2 := by rw [eM1, up2_i (by decide)]
  have m5 : M1 5 = M0 5 := by rw [eM1, up2_i (by decide)]
  have hpl : ∀ t, t < n.1 + 5 → 0 < q.2.1 t → 0 ≤ q.1 t ∧ M1 3 t = q.1 t := by
    intro t ht hr
    have := R.run ht
    have r := this.2.2.2.2.2 hr
    rw [m3]
    exact ⟨by omega, r.1⟩
  have fin : ∀ (k : Nat) (x y : Int) (M : Mem) (o3 : Option AV), SlX (n.1 + 5) M1 M q.1 q.2.1 k x y → (∀ t, t < n.1 + 5 → 0 < q.2.1 t → q.1 t < x) → ∀ (a1 a2 : Int), aw 83 [some (.inr (.inr 1)), some (.inl a1), some (.inl a2), o3] [] M := by
    intro k x y M o3 hS hall a1 a2
    obtain ⟨s1, s2, s3, s4, s5, s6, s7, s8⟩ := hS
    refine run 60 [] _ _ _ _ ?_
    refine Or.inl ⟨⟨b, ⟨?_, ?_, ?_⟩, fun t ht => ?_, fun t h1 h2 => ?_, slP_dj R.2.2.2.2.1, fun h h1 h2 => R.2.2.2.2.2.1 h h1 h2, fun h h1 h2 => ⟨?_, fun i hi => ?_⟩⟩, fun o ho => ?_⟩
    · rw [s1 1 (by decide) (by decide), eM1, up2_k (by decide)]
      exact e.1
    · rw [s1 1 (by decide) (by decide), eM1, up2_k (by decide)]
      exact e.2.1
    · rw [s1 1 (by decide) (by decide), eM1, up2_s, e.2.2]
      rfl
    · have r := R.run ht
      show M 4 t = q.2.1 t ∧ 0 ≤ q.2.1 t ∧ 0 ≤ M 3 t ∧ M 3 t ≤ (n.2.1 : Int) ∧ (0 < q.2.1 t → M 3 t = sumB q.1 q.2.1 (n.1 + 5) (q.1 t) ∧ sumB q.1 q.2.1 (n.1 + 5) (q.1 t) + q.2.1 t ≤ (n.2.1 : Int))
      rw [s1 4 (by decide) (by decide), m4]
      by_cases c : 0 < q.2.1 t
      · have z := s3 t ht c (hall t ht c)
        have r2 := r.2.2.2.2.2 c
        exact ⟨r.1, r.2.1, by omega, by omega, fun _ => ⟨by omega, by omega⟩⟩
      · rw [s2 t ht (fun z => c z.1), m3]
        have := R.2.2.1 t ht
        exact ⟨r.1, r.2.1, r.2.2.2.1, this.2.2.2.1, fun z => absurd z c⟩
    · exact R.2.2.2.1 t h1 h2
    · change 0 < q.2.1 h at h2
      rw [s1 5 (by decide) (by decide), m5]
      exact (R.at h1 h2).2.2.2.2.1
    · change 0 < q.2.1 h at h2
      change (i : Int) < q.2.1 h at hi
      have z := s3 h (by omega) h2 (hall h (by omega) h2)
      show M 2 ((sumB q.1 q.2.1 (n.1 + 5) (q.1 h)).toNat + i) = _
      rw [← z.1, s8 h (by omega) h2 i hi, m2]
      exact (R.at h1 h2).2.2.2.2.2.2.2 i hi
    · rw [s1 o (by omega) (by omega), eM1, up2_i (by omega)]
  have loop : ∀ (r k : Nat) (x y : Int) (M : Mem) (o3 : Option AV), k + r = n.1 + 5 → x ≤ (n.2.1 : Int) → SlX (n.1 + 5) M1 M q.1 q.2.1 k x y → aw 14 [some (.inr (.inr 1)), some (.inl y), some (.inl (k : Int)), o3] [] M := by
    intro r
    induction r with
    | zero =>
      intro k x y M o3 hk hx hS
      refine run 60 [14, 83] _ _ _ _ ?_
      refine And.intro rfl (And.intro rfl ?_)
      refine And.intro ⟨⟨by omega, by omega⟩, ⟨by omega, by omega⟩⟩ (And.intro (fun _ => ?_) (fun c2 => absurd c2 (by omega)))
      refine And.intro (fin k x y M _ hS (fun t ht hr => Int.not_le.mp (fun c => ?_)) _ _) trivial
      have a := sumB_add (pl := q.1) (rm := fun t => if 0 < q.2.1 t then 1 else 0) (x := x) (x2 := q.1 t + 1) ht (by rw [if_pos hr]; omega) c (by omega)
      rw [if_pos hr] at a
      have := sumB_cnt (pl := q.1) (rm := q.2.1) (x := q.1 t + 1) (n.1 + 5)
      have := hS.2.2.2.2.2.2.1
      omega
    | succ r ih =>
      intro k x y M o3 hk hx hS
      obtain ⟨s1, s2, s3, s4, s5, s6, s7, s8⟩ := hS
      have e4 : M 4 = M0 4 := by rw [s1 4 (by decide) (by decide), m4]
      have cur : ∀ t, t < n.1 + 5 → 0 ≤ M 3 t ∧ M 3 t ≤ 800 ∧ (0 < q.2.1 t → (q.1 t < x ∧ M 3 t < y) ∨ (x ≤ q.1 t ∧ M 3 t = q.1 t)) := by
        intro t ht
        have r := R.run ht
        by_cases c : 0 < q.2.1 t ∧ q.1 t < x
        · have z := s3 t ht c.1 c.2
          have r2 := r.2.2.2.2.2 c.1
          exact ⟨by omega, by omega, fun _ => Or.inl ⟨c.2, by omega⟩⟩
        · have z := s2 t ht c
          rw [m3] at z
          exact ⟨by omega, by omega, fun d => Or.inr ⟨by omega, by rw [z]; exact (r.2.2.2.2.2 d).1⟩⟩
      refine run 60 [14, 83] _ _ _ _ ?_
      refine And.intro rfl (And.intro rfl ?_)
      refine And.intro ⟨⟨by omega, by omega⟩, ⟨by omega, by omega⟩⟩ (And.intro (fun c1 => absurd c1 (by omega)) (fun _ => ?_))
      refine And.intro rfl ⟨(y, 0), ⟨rfl, by omega, by omega, b.1, b.2.1, fun t ht => ?_⟩, ?_⟩
      · have r := R.run ht
        have c := cur t ht
        rw [e4]
        exact ⟨by omega, by omega, c.1, c.2.1⟩
      rintro z M ⟨hz, rfl⟩
      rw [e4] at hz
      rcases hz with ⟨rfl, hz⟩ | ⟨t, rfl, ht, hr0, hge, hmin⟩
      · refine And.intro ⟨⟨by omega, by omega⟩, ⟨by omega, by omega⟩⟩ (And.intro (fun c1 => absurd c1 (by omega)) (fun _ => ?_))
        refine And.intro (fin k x y M _ ⟨s1, s2, s3, s4, s5, s6, s7, s8⟩ (fun t ht hr => ?_) _ _) trivial
        have r := R.run ht
        have c := (cur t ht).2.2 hr
        have h1 := hz t ht
        rw [r.1] at h1
        rcases c with c | c
        · exact c.1
        · exact absurd ⟨hr, by omega⟩ h1
      · have rr := R.run ht
        rw [rr.1] at hr0
        have rp := rr.2.2.2.2.2 hr0
        have c := (cur t ht).2.2 hr0
        have c2 : x ≤ q.1 t ∧ M 3 t = q.1 t := by
          rcases c with c | c
          · omega
          · exact c
        have hpp := hpl t ht hr0
        refine And.intro ⟨⟨by omega, by omega⟩, ⟨by omega, by omega⟩⟩ (And.intro (fun _ => ?_) (fun c2 => absurd c2 (by omega)))
        refine And.intro rfl (And.intro rfl (And.intro ⟨rfl, by omega, by omega⟩ (And.intro rfl (And.intro rfl (And.intro ⟨rfl, by omega, by omega⟩ ?_)))))
        conv => whnf
        rw [Int.toNat_natCast, c2.2, e4, rr.1]
        refine ⟨(), ⟨rfl, rfl, by omega, by omega, by omega, by omega, by omega⟩, ?_⟩
        rintro M2 hM2
        change M2 = va_up M 2 (va_cpy (M 2) (M 2) (q.1 t).toNat y.toNat (q.2.1 t).toNat) at hM2
        have f4 : M2 4 t = q.2.1 t := by rw [hM2, va_up_ne _ _ (by decide), e4]; exact rr.1
        refine And.intro rfl (And.intro ⟨rfl, by omega, by omega⟩ (And.intro rfl (And.intro ⟨rfl, by omega, by omega⟩ (And.intro ?_ trivial))))
        rw [Int.toNat_natCast, up2_i (show 4 ≠ 3 by decide), f4, show (k : Int) + 1 = ((k + 1 : Nat) : Int) by omega]
        refine ih (k + 1) (q.1 t + q.2.1 t) _ _ _ (by omega) rp.2 (SlX.move ⟨s1, s2, s3, s4, s5, s6, s7, s8⟩ R.2.2.2.2.1 hpl ht hr0 c2.1 (fun u hu hru hxu => ?_) (fun o h1 h2 => ?_) ?_ ?_)
        · have ru := R.run hu
          have cu := (cur u hu).2.2 hru
          have := hmin u hu (by rw [ru.1]; exact hru)
          rcases cu with cu | cu
          · omega
          · have := this (by omega)
            omega
        · rw [up2_i h2, hM2, va_up_ne _ _ h1]
        · rw [up2_o, hM2, va_up_ne _ _ (by decide)]
        · rw [up2_i (by decide), hM2, va_up_self]
  change aw 0 [some (.inr (.inr 1)), none, none, none] [] M0
  refine run 60 [14] _ _ _ _ ?_
  refine And.intro rfl (And.intro rfl (And.intro ?_ trivial))
  rw [← eM1]
  have z0 : ∀ t, t < n.1 + 5 → 0 < q.2.1 t → 0 ≤ q.1 t := fun t ht hr => (hpl t ht hr).1
  refine loop (n.1 + 5) 0 0 0 M1 none (by omega) (by omega) ⟨fun _ _ _ => rfl, fun _ _ _ => rfl, fun t ht hr hp => ?_, (sumB_0 z0).symm, Int.le_refl _, Int.le_refl _, (sumB_0 (fun t ht hr => ?_)).symm, fun t ht hr i hi => ?_⟩
  · have := z0 t ht hr
    omega
  · refine z0 t ht ?_
    by_cases c : 0 < q.2.1 t
    · exact c
    · rw [if_neg c] at hr
      omega
  · rw [(hpl t ht hr).2]
theorem imX1_slideTogether {l : Launch} {Z : ZT} (hZ : ZOk Z) : Impl l Z yX1_slideTogether cX1_slideTogether 4 none 2 (c_slideX (zN Z)) := mkImpl (rt := 0) (CL := [(73, some 1, (c_lowR (zN Z))), (45, none, cpC (zN Z))]) hZ.1 hZ.2.1 (by decide +kernel) kX1_slideTogether fwX1 iwX1 lwX1 trivial (Nat.le_of_ble_eq_true rfl) (List.forall_mem_cons.mpr ⟨gX1_73 hZ (by decide), List.forall_mem_cons.mpr ⟨gcp_X1 hZ (by decide), fun q h => absurd h List.not_mem_nil⟩⟩) ((v_slideX (zN Z)))
theorem gX1_64 {l : Launch} {Z : ZT} (hZ : ZOk Z) {d : Nat} (hd : 3 ≤ d) : CallI l Z RX1 d (64, some 1, (c_slideX (zN Z))) := fun p e s m args below meth c Q cc nL x0 X => callOk_V X (imX1_slideTogether hZ) (by decide) rfl mlX1_64 iw_yX1_slideTogether vw_yX1_slideTogether nw_RX1 cw_yX1_slideTogether ⟨by decide +kernel, by decide +kernel, show (parseMethodDescriptor yX1_slideTogether.desc).map (fun d => d.parameters.length) = some 0 by decide +kernel⟩ ⟨hd, by decide⟩
theorem gX7_271 {l : Launch} {Z : ZT} (hZ : ZOk Z) {d : Nat} (hd : 3 ≤ d) : CallI l Z RX7 d (271, some 1, (c_slideX (zN Z))) := fun p e s m args below meth c Q cc nL x0 X => callOk_V X (imX1_slideTogether hZ) (by decide) rfl mlX7_271 iw_yX1_slideTogether vw_yX1_slideTogether nw_RX1 cw_yX1_slideTogether ⟨by decide +kernel, by decide +kernel, show (parseMethodDescriptor yX1_slideTogether.desc).map (fun d => d.parameters.length) = some 0 by decide +kernel⟩ ⟨hd, by decide⟩
