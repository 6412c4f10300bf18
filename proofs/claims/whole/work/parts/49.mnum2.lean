/-! ===== the reference: release, look, sub, mul, shift ===== -/
theorem ltE {a b : Int} (h : 0 < a) (e : b = a) : 0 < b := e ▸ h
/-- a run is taken: on with it, or all is over -/
theorem RN.take {n : Nn} {M M' : Mem} {tk : Nat} {q : RS} {k x : Int} (R : RN n M tk q) (h : x = (tkF n.1 n.2.1 tk q.1 q.2.1 k).1 ∧ AgM n M' (tkF n.1 n.2.1 tk q.1 q.2.1 k).2.1 (tkF n.1 n.2.1 tk q.1 q.2.1 k).2.2.1 (tkF n.1 n.2.1 tk q.1 q.2.1 k).2.2.2.1 ∧ M' 50 11 = M 50 11 + (tkF n.1 n.2.1 tk q.1 q.2.1 k).2.2.2.2 ∧ FrT M M') :
    ∃ (tk1 : Nat) (pl1 rm1 : Nat → Int) (sl1 : Int), ((x = 1 ∧ ∀ f, tcR n tk q k f = f tk1 (pl1, rm1, sl1, q.2.2.2)) ∨ (x = 0 ∧ tk1 = 0 ∧ ∀ f, tcR n tk q k f = (-4, (pl1, rm1, sl1, q.2.2.2)))) ∧ tk1 ≤ tk + 1 ∧ RN n M' tk1 (pl1, rm1, sl1, q.2.2.2) ∧ (∀ h, h < n.1 → rm1 h = q.2.1 h) ∧ FrT M M' := by
  obtain ⟨h1, h2, h3, h4⟩ := h
  refine ⟨(tkR n tk q k).2.1, (tkR n tk q k).2.2.1, (tkR n tk q k).2.2.2.1, (tkR n tk q k).2.2.2.2.1, ?_, ?_, R.tk h2 h3 h4, fun h hh => tkR_rm hh, h4⟩
  · rcases tkR_c (n := n) (tk := tk) (q := q) (k := k) with ⟨t1, t2⟩ | ⟨t1, t2⟩
    · exact Or.inl ⟨h1.trans t1, fun f => if_neg (by rw [t1]; decide)⟩
    · exact Or.inr ⟨h1.trans t1, t2, fun f => if_pos t1⟩
  · rcases tkR_c (n := n) (tk := tk) (q := q) (k := k) with ⟨t1, t2⟩ | ⟨t1, t2⟩ <;> omega
theorem RN.free {n : Nn} {M : Mem} {q : RS} {h : Nat} (R : RN n M 0 q) (h1 : h < n.1) : RN n (up2 M 53 h 0) 0 (q.1, va_up q.2.1 h 0, q.2.2.1, q.2.2.2) := by
  obtain ⟨⟨hR, hd, ha⟩, hs, hn, hv⟩ := R
  have hr : ∀ t, rmM n (up2 M 53 h 0) t = va_up (rmM n M) h 0 t := by
    intro t
    by_cases e : t = h
    · subst e
      rw [va_up_self]
      unfold rmM
      rw [if_pos h1, up2_s, if_neg (by omega)]
    · rw [va_up_ne _ _ e]
      unfold rmM
      rw [up2_k e, up2_i (by decide), up2_i (by decide), up2_i (by decide)]
  have hp : ∀ t, plM n (up2 M 53 h 0) t = plM n M t := by
    intro t
    unfold plM
    rw [up2_i (by decide), up2_i (by decide)]
  have f50 : up2 M 53 h 0 50 = M 50 := up2_i (by decide)
  obtain ⟨b1, b2, b3, b4, b5, b6, b7, b8, b9, b10⟩ := hR
  refine ⟨⟨⟨b1, b2, b3, b4, by rw [f50]; exact b5, by rw [f50]; exact b6, by rw [f50]; exact b7, b8, fun t ht => ?_, fun t ht hl => ?_⟩, ?_, fun t ht => ?_⟩, by rw [f50]; exact hs, fun t h2 h3 => ?_, fun t h2 h3 => ?_⟩
  · by_cases e : t = h
    · subst e
      exact Or.inl up2_s
    · rw [up2_k e]
      exact b9 t ht
  · have e : t ≠ h := fun e => by
      subst e
      have := hl h1
      rw [up2_s] at this
      omega
    rw [hr, hp, va_up_ne _ _ e]
    exact b10 t ht (fun z => by have := hl z; rw [up2_k e] at this; exact this)
  · intro t u ht hu hne r1 r2
    change 0 < va_up q.2.1 h 0 t at r1
    change 0 < va_up q.2.1 h 0 u at r2
    have e1 : t ≠ h := fun e => by subst e; rw [va_up_self] at r1; omega
    have e2 : u ≠ h := fun e => by subst e; rw [va_up_self] at r2; omega
    show q.1 t + va_up q.2.1 h 0 t ≤ q.1 u ∨ q.1 u + va_up q.2.1 h 0 u ≤ q.1 t
    rw [va_up_ne _ _ e1] at r1 ⊢
    rw [va_up_ne _ _ e2] at r2 ⊢
    exact hd t u ht hu hne r1 r2
  · rw [hr, hp]
    show _ = va_up q.2.1 h 0 t ∧ (0 < va_up q.2.1 h 0 t → _ = q.1 t)
    by_cases e : t = h
    · subst e
      rw [va_up_self, va_up_self]
      exact ⟨rfl, fun z => by omega⟩
    · rw [va_up_ne _ _ e, va_up_ne _ _ e]
      exact ha t ht
  · change 0 < va_up q.2.1 h 0 t at h3
    have e1 : t ≠ h := fun e => by subst e; rw [va_up_self] at h3; omega
    show _ ≤ va_up q.2.1 h 0 t ∧ va_up q.2.1 h 0 t ≤ 64
    rw [va_up_ne _ _ e1] at h3 ⊢
    exact hn t h2 h3
  · change 0 < va_up q.2.1 h 0 t at h3
    have e1 : t ≠ h := fun e => by subst e; rw [va_up_self] at h3; omega
    rw [va_up_ne _ _ e1] at h3
    exact (hv t h2 h3).ft (up2_i (by decide)) (up2_i (by decide))
theorem v_release (n0 : Nn) : Ver tX8_release (fdX8, icX8, lcX8, [(138, some 8, c_isLiveL)]) 1 2 n0 (cN1 relF) := by
  rintro ⟨n, q, h⟩ vs M0 ⟨rfl, ih, R⟩ aw run
  have l53 : lnF n0 53 = 24 := rfl
  change aw 0 [some (.inr (.inr 50)), some (.inl h)] [] M0
  refine run 60 [] _ _ _ _ ?_
  refine And.intro rfl ⟨(n, 0, q, h), ⟨rfl, ih, R⟩, ?_⟩
  rintro x M0 ⟨⟨rfl, hh⟩ | ⟨rfl, hh⟩, rfl⟩
  rotate_left
  · refine And.intro ⟨⟨by omega, by omega⟩, ⟨by omega, by omega⟩⟩ (And.intro (fun c1 => absurd c1 (by omega)) (fun _ => ?_))
    have e : relF n q h = (-2, q) := if_neg hh
    refine Or.inl ?_
    show -2 = ((relF n q h)).1 ∧ RN n M0 0 ((relF n q h)).2 ∧ FN M0 M0
    rw [e]
    exact ⟨rfl, R, FN.rf _⟩
  refine And.intro ⟨⟨by omega, by omega⟩, ⟨by omega, by omega⟩⟩ (And.intro (fun _ => ?_) (fun c2 => absurd c2 (by omega)))
  have b2 := R.n24
  obtain ⟨h, rfl, h_1, h_2⟩ := hh.nat
  have Ah := R.at h_1 h_2
  have e : relF n q (h : Int) = (0, (q.1, va_up q.2.1 h 0, q.2.2.1, q.2.2.2)) := if_pos (Lv.of h_1 h_2)
  refine And.intro rfl (And.intro ⟨rfl, by omega, by omega, Or.inl rfl⟩ ?_)
  refine Or.inl ?_
  show 0 = ((relF n q h)).1 ∧ RN n (up2 M0 53 h 0) 0 ((relF n q h)).2 ∧ FN M0 (up2 M0 53 h 0)
  rw [e]
  exact ⟨rfl, R.free h_1, FN.up (by omega)⟩
theorem imX8_release {l : Launch} {Z : ZT} (hZ : ZOk Z) : Impl l Z yX8_release cX8_release 2 (some .int) 3 (cN1 relF) := mkImpl (rt := 1) (CL := [(138, some 8, c_isLiveL)]) hZ.1 hZ.2.1 (by decide +kernel) kX8_release fwX8 iwX8 lwX8 trivial (Nat.le_of_ble_eq_true rfl) (List.forall_mem_cons.mpr ⟨gX8_138_L hZ (by decide), fun q h => absurd h List.not_mem_nil⟩) ((v_release _))
theorem v_look (n0 : Nn) : Ver tX8_look (fdX8, icX8, lcX8, [(138, some 8, c_isLiveL), (104, some 8, c_bits)]) 1 3 n0 (cR2 lokF) := by
  rintro ⟨n, q, h, w⟩ vs M0 ⟨rfl, ih, iw, R⟩ aw run
  unfold inR at iw
  have l52 : lnF n0 52 = 37 := rfl
  have l54 : lnF n0 54 = 24 := rfl
  have l55 : lnF n0 55 = 24 := rfl
  change aw 0 [some (.inr (.inr 50)), some (.inl h), some (.inl w)] [] M0
  refine run 60 [] _ _ _ _ ?_
  refine And.intro rfl ⟨(n, 0, q, h), ⟨rfl, ih, R⟩, ?_⟩
  rintro x M0 ⟨⟨rfl, hh⟩ | ⟨rfl, hh⟩, rfl⟩
  rotate_left
  · refine And.intro ⟨⟨by omega, by omega⟩, ⟨by omega, by omega⟩⟩ (And.intro (fun c1 => absurd c1 (by omega)) (fun _ => ?_))
    exact Or.inl (And.intro (if_neg hh).symm rfl)
  refine And.intro ⟨⟨by omega, by omega⟩, ⟨by omega, by omega⟩⟩ (And.intro (fun _ => ?_) (fun c2 => absurd c2 (by omega)))
  have b2 := R.n24
  obtain ⟨h, rfl, h_1, h_2⟩ := hh.nat
  have Ah := R.at h_1 h_2
  have e : lokF n q (h : Int) w = (if w = 0 then (nd (q.2.2.2 h) : Int) else if w = 1 then q.2.1 h else if w = 2 then q.1 h else if w = 3 then (nb (q.2.2.2 h) : Int) else -1) := if_pos (Lv.of h_1 h_2)
  obtain ⟨a1, a2, a3, a4, a5, a6, a7, a8⟩ := Ah
  refine And.intro ⟨⟨by omega, by omega⟩, ⟨by omega, by omega⟩⟩ (And.intro (fun c1 => ?_) (fun c2 => ?_))
  · rw [if_neg c1] at e
    refine And.intro ⟨⟨by omega, by omega⟩, ⟨by omega, by omega⟩⟩ (And.intro (fun c1 => ?_) (fun c2 => ?_))
    · rw [if_neg c1] at e
      refine And.intro ⟨⟨by omega, by omega⟩, ⟨by omega, by omega⟩⟩ (And.intro (fun c1 => ?_) (fun c2 => ?_))
      · rw [if_neg c1] at e
        refine And.intro ⟨⟨by omega, by omega⟩, ⟨by omega, by omega⟩⟩ (And.intro (fun c1 => ?_) (fun c2 => ?_))
        · rw [if_neg c1] at e
          exact Or.inl (And.intro e.symm rfl)
        · rw [if_pos c2] at e
          refine And.intro rfl ⟨(h, q.2.2.2 h), ⟨rfl, by omega, a4, by omega⟩, ?_⟩
          rintro x M0 ⟨rfl, rfl⟩
          exact Or.inl (And.intro e.symm rfl)
      · rw [if_pos c2] at e
        exact And.intro rfl (And.intro ⟨rfl, by omega, by omega⟩ (Or.inl (And.intro (a3.trans e.symm) rfl)))
    · rw [if_pos c2] at e
      exact And.intro rfl (And.intro ⟨rfl, by omega, by omega⟩ (Or.inl (And.intro (a2.trans e.symm) rfl)))
  · rw [if_pos c2] at e
    exact And.intro rfl (And.intro ⟨rfl, by omega, by omega⟩ (Or.inl (And.intro (a8.trans e.symm) rfl)))
theorem imX8_look {l : Launch} {Z : ZT} (hZ : ZOk Z) : Impl l Z yX8_look cX8_look 3 (some .int) 3 (cR2 lokF) := mkImpl (rt := 1) (CL := [(138, some 8, c_isLiveL), (104, some 8, c_bits)]) hZ.1 hZ.2.1 (by decide +kernel) kX8_look fwX8 iwX8 lwX8 trivial (Nat.le_of_ble_eq_true rfl) (List.forall_mem_cons.mpr ⟨gX8_138_L hZ (by decide), List.forall_mem_cons.mpr ⟨gX8_104 hZ (by decide), fun q h => absurd h List.not_mem_nil⟩⟩) ((v_look _))
theorem cm3_cases (a b : Nat) : (cm3 a b = -1 ∧ a < b) ∨ (cm3 a b = 0 ∧ a = b) ∨ (cm3 a b = 1 ∧ b < a) := by
  unfold cm3
  split
  · exact Or.inl ⟨rfl, by omega⟩
  · split
    · exact Or.inr (Or.inl ⟨rfl, by omega⟩)
    · exact Or.inr (Or.inr ⟨rfl, by omega⟩)
theorem v_sub (n0 : Nn) : Ver tX8_sub (fdX8, icX8, lcX8, [(138, some 8, c_isLiveL), (91, some 8, c_compared), (156, some 8, c_difference), (153, some 8, c_comes)]) 1 4 n0 (cN3 subF) := by
  rintro ⟨n, q, d, a, b⟩ vs M0 ⟨rfl, id, ia, ib, R⟩ aw run
  have l52 : lnF n0 52 = 37 := rfl
  have l54 : lnF n0 54 = 24 := rfl
  have l55 : lnF n0 55 = 24 := rfl
  have bad : ¬ (Lv n q d ∧ Lv n q a ∧ Lv n q b) → aw 24 [some (.inr (.inr 50)), some (.inl d), some (.inl a), some (.inl b)] [] M0 := by
    intro hb
    have e : subF n q d a b = (-2, q) := if_neg hb
    refine run 60 [] _ _ _ _ ?_
    refine Or.inl ?_
    show -2 = (subF n q d a b).1 ∧ RN n M0 0 (subF n q d a b).2 ∧ FN M0 M0
    rw [e]
    exact ⟨rfl, R, FN.rf _⟩
  change aw 0 [some (.inr (.inr 50)), some (.inl d), some (.inl a), some (.inl b)] [] M0
  refine run 90 [24] _ _ _ _ ?_
  refine And.intro rfl ⟨(n, 0, q, d), ⟨rfl, id, R⟩, ?_⟩
  rintro x M0 ⟨⟨rfl, hd⟩ | ⟨rfl, hd⟩, rfl⟩
  rotate_left
  · refine And.intro ⟨⟨by omega, by omega⟩, ⟨by omega, by omega⟩⟩ (And.intro (fun _ => ?_) (fun c2 => absurd c2 (by omega)))
    exact And.intro (bad (fun z => hd z.1)) trivial
  refine And.intro ⟨⟨by omega, by omega⟩, ⟨by omega, by omega⟩⟩ (And.intro (fun c1 => absurd c1 (by omega)) (fun _ => ?_))
  refine And.intro rfl ⟨(n, 0, q, a), ⟨rfl, ia, R⟩, ?_⟩
  rintro x M0 ⟨⟨rfl, ha⟩ | ⟨rfl, ha⟩, rfl⟩
  rotate_left
  · refine And.intro ⟨⟨by omega, by omega⟩, ⟨by omega, by omega⟩⟩ (And.intro (fun _ => ?_) (fun c2 => absurd c2 (by omega)))
    exact And.intro (bad (fun z => ha z.2.1)) trivial
  refine And.intro ⟨⟨by omega, by omega⟩, ⟨by omega, by omega⟩⟩ (And.intro (fun c1 => absurd c1 (by omega)) (fun _ => ?_))
  refine And.intro rfl ⟨(n, 0, q, b), ⟨rfl, ib, R⟩, ?_⟩
  rintro x M0 ⟨⟨rfl, hb⟩ | ⟨rfl, hb⟩, rfl⟩
  rotate_left
  · refine And.intro ⟨⟨by omega, by omega⟩, ⟨by omega, by omega⟩⟩ (And.intro (fun c1 => absurd c1 (by omega)) (fun _ => ?_))
    exact And.intro (bad (fun z => hb z.2.2)) trivial
  refine And.intro ⟨⟨by omega, by omega⟩, ⟨by omega, by omega⟩⟩ (And.intro (fun _ => ?_) (fun c2 => absurd c2 (by omega)))
  have b2 := R.n24
  obtain ⟨d, rfl, d_1, d_2⟩ := hd.nat
  have Ad := R.at d_1 d_2
  obtain ⟨a, rfl, a_1, a_2⟩ := ha.nat
  have Aa := R.at a_1 a_2
  obtain ⟨b, rfl, b_1, b_2⟩ := hb.nat
  have Ab := R.at b_1 b_2
  have L0 := And.intro (Lv.of d_1 d_2) (And.intro (Lv.of a_1 a_2) (Lv.of b_1 b_2))
  have e : subF n q d a b = (if q.2.2.2 a < q.2.2.2 b then (-5, q) else cmR n 0 q d (q.2.2.2 a - q.2.2.2 b)) := if_pos L0
  refine And.intro rfl ⟨(a, b, q.2.2.2 a, q.2.2.2 b), ⟨rfl, by omega, by omega, Aa.2.2.2.1, by omega, Ab.2.2.2.1, by omega⟩, ?_⟩
  rintro x M0 ⟨rfl, rfl⟩
  have c3 := cm3_cases (q.2.2.2 a) (q.2.2.2 b)
  refine And.intro ⟨⟨by omega, by omega⟩, ⟨by omega, by omega⟩⟩ (And.intro (fun c1 => ?_) (fun c2 => ?_))
  · refine And.intro rfl ⟨(a, b, 24, q.2.2.2 a, q.2.2.2 b), ⟨rfl, by omega, by omega, by omega, by omega, by omega, Aa.2.2.2.1, by omega, Ab.2.2.2.1, by omega⟩, ?_⟩
    rintro M1 ⟨hM1, hF1⟩
    have R1 := R.fm hF1 (by omega)
    have hnd : nd (q.2.2.2 a - q.2.2.2 b) ≤ 64 := Nat.le_trans (nd_mono (Nat.sub_le _ _)) Aa.2.2.2.2.1
    refine And.intro rfl ⟨(n, 0, q.1, q.2.1, 24, d, q.2.2.2 a - q.2.2.2 b), ⟨rfl, R1.1, by omega, d_1, (R1.at d_1 d_2).1, by omega, by omega, hM1, by omega⟩, ?_⟩
    rintro x M2 hp
    obtain ⟨c1, c2, c3⟩ := R1.com d_1 d_2 hnd hp
    refine Or.inl ?_
    show x = ((subF n q d a b)).1 ∧ RN n M2 0 ((subF n q d a b)).2 ∧ FN M0 M2
    rw [e, if_neg (by omega)]
    exact ⟨c1, c2, hF1.N.tr c3⟩
  · refine Or.inl ?_
    show -5 = ((subF n q d a b)).1 ∧ RN n M0 0 ((subF n q d a b)).2 ∧ FN M0 M0
    rw [e, if_pos (by omega)]
    exact ⟨rfl, R, FN.rf _⟩
theorem imX8_sub {l : Launch} {Z : ZT} (hZ : ZOk Z) : Impl l Z yX8_sub cX8_sub 4 (some .int) 4 (cN3 subF) := mkImpl (rt := 1) (CL := [(138, some 8, c_isLiveL), (91, some 8, c_compared), (156, some 8, c_difference), (153, some 8, c_comes)]) hZ.1 hZ.2.1 (by decide +kernel) kX8_sub fwX8 iwX8 lwX8 trivial (Nat.le_of_ble_eq_true rfl) (List.forall_mem_cons.mpr ⟨gX8_138_L hZ (by decide), List.forall_mem_cons.mpr ⟨gX8_91 hZ (by decide), List.forall_mem_cons.mpr ⟨gX8_156 hZ (by decide), List.forall_mem_cons.mpr ⟨gX8_153 hZ (by decide), fun q h => absurd h List.not_mem_nil⟩⟩⟩⟩) ((v_sub _))
def shfF (n : Nn) (q : RS) (d a s : Int) : Int × RS := if Lv n q d ∧ Lv n q a then (if -960 ≤ s ∧ s ≤ 960 then (if 64 < nd (shV (q.2.2.2 a.toNat) s) then (-8, q) else cmR n 0 q d.toNat (shV (q.2.2.2 a.toNat) s)) else (-3, q)) else (-2, q)
theorem shV_nd {v : Nat} {s : Int} (h : nd v ≤ 64) (h1 : s ≤ 960) : nd (shV v s) ≤ 128 := by
  unfold shV
  split
  · exact Nat.le_trans (nd_mono (Nat.div_le_self _ _)) (by omega)
  · refine nd_le.mpr ?_
    have e1 : v < 32768 ^ 64 := nd_le.mp h
    have e2 : 2 ^ s.toNat ≤ 32768 ^ 64 := by
      rw [nn_pw]
      exact Nat.pow_le_pow_right (by decide) (by omega)
    have e3 := nn_pos 64
    calc v * 2 ^ s.toNat ≤ v * 32768 ^ 64 := Nat.mul_le_mul_left _ e2
      _ < 32768 ^ 64 * 32768 ^ 64 := Nat.mul_lt_mul_of_pos_right e1 e3
      _ = 32768 ^ 128 := by rw [← Nat.pow_add]
theorem v_shift (n0 : Nn) : Ver tX8_shift (fdX8, icX8, lcX8, [(138, some 8, c_isLiveL), (127, none, c_isIn), (162, some 8, c_shifted), (153, some 8, c_comes)]) 1 4 n0 (cN3 shfF) := by
  rintro ⟨n, q, d, a, s⟩ vs M0 ⟨rfl, id, ia, is, R⟩ aw run
  have is0 := is
  unfold inR at is
  have l52 : lnF n0 52 = 37 := rfl
  have bad : ¬ (Lv n q d ∧ Lv n q a) → aw 16 [some (.inr (.inr 50)), some (.inl d), some (.inl a), some (.inl s)] [] M0 := by
    intro hb
    have e : shfF n q d a s = (-2, q) := if_neg hb
    refine run 60 [] _ _ _ _ ?_
    refine Or.inl ?_
    show -2 = ((shfF n q d a s)).1 ∧ RN n M0 0 ((shfF n q d a s)).2 ∧ FN M0 M0
    rw [e]
    exact ⟨rfl, R, FN.rf _⟩
  change aw 0 [some (.inr (.inr 50)), some (.inl d), some (.inl a), some (.inl s)] [] M0
  refine run 60 [16] _ _ _ _ ?_
  refine And.intro rfl ⟨(n, 0, q, d), ⟨rfl, id, R⟩, ?_⟩
  rintro x M0 ⟨⟨rfl, hd⟩ | ⟨rfl, hd⟩, rfl⟩
  rotate_left
  · refine And.intro ⟨⟨by omega, by omega⟩, ⟨by omega, by omega⟩⟩ (And.intro (fun _ => ?_) (fun c2 => absurd c2 (by omega)))
    exact And.intro (bad (fun z => hd z.1)) trivial
  refine And.intro ⟨⟨by omega, by omega⟩, ⟨by omega, by omega⟩⟩ (And.intro (fun c1 => absurd c1 (by omega)) (fun _ => ?_))
  refine And.intro rfl ⟨(n, 0, q, a), ⟨rfl, ia, R⟩, ?_⟩
  rintro x M0 ⟨⟨rfl, ha⟩ | ⟨rfl, ha⟩, rfl⟩
  rotate_left
  · refine And.intro ⟨⟨by omega, by omega⟩, ⟨by omega, by omega⟩⟩ (And.intro (fun c1 => absurd c1 (by omega)) (fun _ => ?_))
    exact And.intro (bad (fun z => ha z.2)) trivial
  refine And.intro ⟨⟨by omega, by omega⟩, ⟨by omega, by omega⟩⟩ (And.intro (fun _ => ?_) (fun c2 => absurd c2 (by omega)))
  have b2 := R.n24
  obtain ⟨d, rfl, d_1, d_2⟩ := hd.nat
  have Ad := R.at d_1 d_2
  obtain ⟨a, rfl, a_1, a_2⟩ := ha.nat
  have Aa := R.at a_1 a_2
  have e : shfF n q d a s = (if -960 ≤ s ∧ s ≤ 960 then (if 64 < nd (shV (q.2.2.2 a) s) then (-8, q) else cmR n 0 q d (shV (q.2.2.2 a) s)) else (-3, q)) := if_pos ⟨Lv.of d_1 d_2, Lv.of a_1 a_2⟩
  refine ⟨(s, -960, 960), ⟨rfl, is0, ⟨by omega, by omega⟩, ⟨by omega, by omega⟩⟩, ?_⟩
  rintro x M0 ⟨rfl, rfl⟩
  by_cases hin : -960 ≤ s ∧ s ≤ 960
  · rw [if_pos hin] at e ⊢
    refine And.intro ⟨⟨by omega, by omega⟩, ⟨by omega, by omega⟩⟩ (And.intro (fun _ => ?_) (fun c2 => absurd c2 (by omega)))
    refine And.intro rfl ⟨(a, s, 24, q.2.2.2 a), ⟨rfl, by omega, by omega, by omega, by omega, by omega, Aa.2.2.2.1, by omega⟩, ?_⟩
    rintro M1 ⟨hM1, hF1⟩
    have R1 := R.fm hF1 (by omega)
    have hl := hM1.1
    have hnd := shV_nd Aa.2.2.2.2.1 hin.2
    refine And.intro rfl (And.intro ⟨rfl, by omega, by omega⟩ ?_)
    conv => whnf
    rw [show ((24 : Int)).toNat = 24 from rfl, hl]
    refine And.intro ⟨⟨by omega, by omega⟩, ⟨by omega, by omega⟩⟩ (And.intro (fun c1 => ?_) (fun c2 => ?_))
    · refine And.intro rfl ⟨(n, 0, q.1, q.2.1, 24, d, shV (q.2.2.2 a) s), ⟨rfl, R1.1, by omega, d_1, (R1.at d_1 d_2).1, by omega, by omega, hM1, by omega⟩, ?_⟩
      rintro x M2 hp
      obtain ⟨c1, c2, c3⟩ := R1.com d_1 d_2 (by omega) hp
      refine Or.inl ?_
      show x = ((shfF n q d a s)).1 ∧ RN n M2 0 ((shfF n q d a s)).2 ∧ FN M0 M2
      rw [e, if_neg (by omega)]
      exact ⟨c1, c2, hF1.N.tr c3⟩
    · refine Or.inl ?_
      show -8 = ((shfF n q d a s)).1 ∧ RN n M1 0 ((shfF n q d a s)).2 ∧ FN M0 M1
      rw [e, if_pos (by omega)]
      exact ⟨rfl, R1, hF1.N⟩
  · rw [if_neg hin] at e ⊢
    refine And.intro ⟨⟨by omega, by omega⟩, ⟨by omega, by omega⟩⟩ (And.intro (fun c1 => absurd c1 (by omega)) (fun _ => ?_))
    refine Or.inl ?_
    show -3 = ((shfF n q d a s)).1 ∧ RN n M0 0 ((shfF n q d a s)).2 ∧ FN M0 M0
    rw [e]
    exact ⟨rfl, R, FN.rf _⟩
theorem imX8_shift {l : Launch} {Z : ZT} (hZ : ZOk Z) : Impl l Z yX8_shift cX8_shift 4 (some .int) 4 (cN3 shfF) := mkImpl (rt := 1) (CL := [(138, some 8, c_isLiveL), (127, none, c_isIn), (162, some 8, c_shifted), (153, some 8, c_comes)]) hZ.1 hZ.2.1 (by decide +kernel) kX8_shift fwX8 iwX8 lwX8 trivial (Nat.le_of_ble_eq_true rfl) (List.forall_mem_cons.mpr ⟨gX8_138_L hZ (by decide), List.forall_mem_cons.mpr ⟨gX8_127 hZ (by decide), List.forall_mem_cons.mpr ⟨gX8_162 hZ (by decide), List.forall_mem_cons.mpr ⟨gX8_153 hZ (by decide), fun q h => absurd h List.not_mem_nil⟩⟩⟩⟩) ((v_shift _))
