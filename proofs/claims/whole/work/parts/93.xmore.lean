set_option maxHeartbeats 4000000 in
theorem v_divmodX (n : Nn) : Ver tX7_divmod (fdX7, icX7, lcX7, [(186, some 7, c_isLN n), (100, some 1, c_isLiveX n), (180, some 1, c_takeA n), (113, some 1, c_readX n), (189, some 0, c_divX), (193, some 7, c_bring n)]) 1 7 n (cX4 dvmF n) := by
  rintro ⟨q, x, y, a, b⟩ vs M0 ⟨rfl, ix, iy, ia, ib, R⟩ aw run
  have ix0 := ix
  have iy0 := iy
  unfold inR at ix0 iy0
  have l5 : lnF n 5 = n.1 := rfl
  have bad : ¬ ((x = -1 ∨ Lv n q x) ∧ (y = -1 ∨ Lv n q y) ∧ Lv n q a ∧ Lv n q b) → aw 39 [some (.inr (.inr 0)), some (.inl x), some (.inl y), some (.inl a), some (.inl b), none, none] [] M0 := by
    intro hb
    refine run 60 [] _ _ _ _ ?_
    refine Or.inl ?_
    show -2 = ((dvmF n q x y a b)).1 ∧ XN n M0 0 ((dvmF n q x y a b)).2 ∧ FP M0 M0
    rw [show dvmF n q x y a b = (-2, q) from if_neg hb]
    exact ⟨rfl, R, FP.rf _⟩
  change aw 0 [some (.inr (.inr 0)), some (.inl x), some (.inl y), some (.inl a), some (.inl b), none, none] [] M0
  refine run 120 [39, 42] _ _ _ _ ?_
  refine And.intro rfl ⟨(q, x), ⟨rfl, ix, R⟩, ?_⟩
  rintro z M0 ⟨⟨rfl, hx⟩ | ⟨rfl, hx⟩, rfl⟩
  rotate_left
  · refine And.intro ⟨⟨by omega, by omega⟩, ⟨by omega, by omega⟩⟩ (And.intro (fun _ => ?_) (fun c2 => absurd c2 (by omega)))
    exact And.intro (bad (fun z => hx z.1)) trivial
  refine And.intro ⟨⟨by omega, by omega⟩, ⟨by omega, by omega⟩⟩ (And.intro (fun c1 => absurd c1 (by omega)) (fun _ => ?_))
  refine And.intro rfl ⟨(q, y), ⟨rfl, iy, R⟩, ?_⟩
  rintro z M0 ⟨⟨rfl, hy⟩ | ⟨rfl, hy⟩, rfl⟩
  rotate_left
  · refine And.intro ⟨⟨by omega, by omega⟩, ⟨by omega, by omega⟩⟩ (And.intro (fun _ => ?_) (fun c2 => absurd c2 (by omega)))
    exact And.intro (bad (fun z => hy z.2.1)) trivial
  refine And.intro ⟨⟨by omega, by omega⟩, ⟨by omega, by omega⟩⟩ (And.intro (fun c1 => absurd c1 (by omega)) (fun _ => ?_))
  refine And.intro rfl (And.intro rfl ⟨(0, q, a), ⟨rfl, ia, R⟩, ?_⟩)
  rintro z M0 ⟨⟨rfl, ha⟩ | ⟨rfl, ha⟩, rfl⟩
  rotate_left
  · refine And.intro ⟨⟨by omega, by omega⟩, ⟨by omega, by omega⟩⟩ (And.intro (fun _ => ?_) (fun c2 => absurd c2 (by omega)))
    exact And.intro (bad (fun z => ha z.2.2.1)) trivial
  refine And.intro ⟨⟨by omega, by omega⟩, ⟨by omega, by omega⟩⟩ (And.intro (fun c1 => absurd c1 (by omega)) (fun _ => ?_))
  refine And.intro rfl (And.intro rfl ⟨(0, q, b), ⟨rfl, ib, R⟩, ?_⟩)
  rintro z M0 ⟨⟨rfl, hb⟩ | ⟨rfl, hb⟩, rfl⟩
  rotate_left
  · refine And.intro ⟨⟨by omega, by omega⟩, ⟨by omega, by omega⟩⟩ (And.intro (fun c1 => absurd c1 (by omega)) (fun _ => ?_))
    exact And.intro (bad (fun z => hb z.2.2.2)) trivial
  refine And.intro ⟨⟨by omega, by omega⟩, ⟨by omega, by omega⟩⟩ (And.intro (fun _ => ?_) (fun c2 => absurd c2 (by omega)))
  refine And.intro ?_ trivial
  clear bad
  have e : dvmF n q x y a b = (if q.2.2.2 b.toNat = 0 then (-6, q) else if x = y ∧ x ≠ -1 then (-7, q) else dvG n q x y (q.2.2.2 a.toNat) (q.2.2.2 b.toNat)) := if_pos ⟨hx, hy, ha, hb⟩
  obtain ⟨a, rfl, a_1, a_2⟩ := ha.nat
  have Aa := R.at a_1 a_2
  obtain ⟨b, rfl, b_1, b_2⟩ := hb.nat
  have Ab := R.at b_1 b_2
  rw [Int.toNat_natCast, Int.toNat_natCast] at e
  have na : nd (q.2.2.2 a) ≤ 64 := by omega
  have nb_ : nd (q.2.2.2 b) ≤ 64 := by omega
  refine run 120 [86] _ _ _ _ ?_
  refine And.intro rfl (And.intro rfl (And.intro ⟨rfl, by omega, by omega⟩ (And.intro rfl (And.intro rfl (And.intro ⟨rfl, by omega, by omega⟩ ?_)))))
  conv => whnf
  rw [Int.toNat_natCast, Int.toNat_natCast, Aa.2.2.2.2.1, Ab.2.2.2.2.1]
  refine And.intro ⟨⟨by omega, by omega⟩, ⟨by omega, by omega⟩⟩ (And.intro (fun c1 => ?_) (fun c2 => ?_))
  rotate_left
  · refine Or.inl ?_
    show -6 = ((dvmF n q x y a b)).1 ∧ XN n M0 0 ((dvmF n q x y a b)).2 ∧ FP M0 M0
    rw [e, if_pos (nd_z.mp (by omega))]
    exact ⟨rfl, R, FP.rf _⟩
  have b0 : q.2.2.2 b ≠ 0 := fun z => by rw [z, nd_0] at c1; omega
  rw [if_neg b0] at e
  have go : ¬ (x = y ∧ x ≠ -1) → aw 86 [some (.inr (.inr 0)), some (.inl x), some (.inl y), some (.inl (a : Int)), some (.inl (b : Int)), some (.inl (nd (q.2.2.2 a) : Int)), some (.inl (nd (q.2.2.2 b) : Int))] [] M0 := by
    intro hxy
    rw [if_neg hxy] at e
    unfold dvG at e
    have no : ∀ (M : Mem) (qx : RS), dvmF n q x y a b = (-4, qx) → XN n M 0 qx → FP M0 M → aw 129 [some (.inr (.inr 0)), some (.inl x), some (.inl y), some (.inl (a : Int)), some (.inl (b : Int)), some (.inl (nd (q.2.2.2 a) : Int)), some (.inl (nd (q.2.2.2 b) : Int))] [] M := by
      intro M qx he RM fM
      refine run 60 [] _ _ _ _ ?_
      refine Or.inl ?_
      show -4 = ((dvmF n q x y a b)).1 ∧ XN n M 0 ((dvmF n q x y a b)).2 ∧ FP M0 M
      rw [he]
      exact ⟨rfl, RM, fM⟩
    refine run 120 [129] _ _ _ _ ?_
    refine And.intro rfl ?_
    refine And.intro rfl ⟨(0, q, ((nd (q.2.2.2 a) : Int) + 1)), ⟨rfl, R, by omega, by omega, by omega⟩, ?_⟩
    rintro x M1 ⟨tk1, q1, ho1, R1, rk1, vk1, hF1⟩
    rcases ho1 with ⟨rfl, ht1, hu1⟩ | ⟨rfl, ht1, hu1⟩
    rotate_left
    · refine And.intro ⟨⟨by omega, by omega⟩, ⟨by omega, by omega⟩⟩ (And.intro (fun _ => ?_) (fun c2 => absurd c2 (by omega)))
      subst ht1
      exact And.intro (no M1 q1 (e.trans (hu1 _)) R1 hF1.P) trivial
    refine And.intro ⟨⟨by omega, by omega⟩, ⟨by omega, by omega⟩⟩ (And.intro (fun c1 => absurd c1 (by omega)) (fun _ => ?_))
    refine And.intro rfl ?_
    refine And.intro rfl ⟨(tk1, q1, (nd (q.2.2.2 b) : Int)), ⟨rfl, R1, by omega, by omega, by omega⟩, ?_⟩
    rintro x M2 ⟨tk2, q2, ho2, R2, rk2, vk2, hF2⟩
    rcases ho2 with ⟨rfl, ht2, hu2⟩ | ⟨rfl, ht2, hu2⟩
    rotate_left
    · refine And.intro ⟨⟨by omega, by omega⟩, ⟨by omega, by omega⟩⟩ (And.intro (fun _ => ?_) (fun c2 => absurd c2 (by omega)))
      subst ht2
      exact And.intro (no M2 q2 (e.trans ((hu1 _).trans (hu2 _))) R2 (hF1.P.tr hF2.P)) trivial
    refine And.intro ⟨⟨by omega, by omega⟩, ⟨by omega, by omega⟩⟩ (And.intro (fun c1 => absurd c1 (by omega)) (fun _ => ?_))
    refine And.intro rfl ?_
    refine And.intro rfl ⟨(tk2, q2, ((nd (q.2.2.2 a) : Int) - (nd (q.2.2.2 b) : Int) + 1)), ⟨rfl, R2, by omega, by omega, by omega⟩, ?_⟩
    rintro x M3 ⟨tk3, q3, ho3, R3, rk3, vk3, hF3⟩
    rcases ho3 with ⟨rfl, ht3, hu3⟩ | ⟨rfl, ht3, hu3⟩
    rotate_left
    · refine And.intro ⟨⟨by omega, by omega⟩, ⟨by omega, by omega⟩⟩ (And.intro (fun c1 => absurd c1 (by omega)) (fun _ => ?_))
      subst ht3
      exact And.intro (no M3 q3 (e.trans ((hu1 _).trans ((hu2 _).trans (hu3 _)))) R3 ((hF1.P.tr hF2.P).tr hF3.P)) trivial
    refine And.intro ⟨⟨by omega, by omega⟩, ⟨by omega, by omega⟩⟩ (And.intro (fun _ => ?_) (fun c2 => absurd c2 (by omega)))
    have e2 := e.trans ((hu1 _).trans ((hu2 _).trans (hu3 _)))
    have rk : ∀ h, h < n.1 → q3.2.1 h = q.2.1 h := fun h hh => (rk3 h hh).trans ((rk2 h hh).trans (rk1 h hh))
    have vk : q3.2.2.2 = q.2.2.2 := vk3.trans (vk2.trans vk1)
    have a2 : 0 < q3.2.1 a := by rw [rk a a_1]; exact a_2
    have b2 : 0 < q3.2.1 b := by rw [rk b b_1]; exact b_2
    have lv : ∀ z : Int, Lv n q z → Lv n q3 z := fun z hz => ⟨hz.1, hz.2.1, by rw [rk z.toNat (by have := hz.1; have := hz.2.1; omega)]; exact hz.2.2⟩
    have kq : ∀ (z : Int) (v : Nat), (z = -1 ∨ Lv n q z) → kqF q z v = kqF q3 z v := by
      intro z v hz
      unfold kqF
      rcases hz with rfl | hz
      · rw [if_neg (fun z => z.1 rfl), if_neg (fun z => z.1 rfl)]
      · rw [rk z.toNat (by have := hz.1; have := hz.2.1; omega)]
    refine And.intro rfl (And.intro rfl (And.intro rfl ⟨(tk3, q3, a, 21), ⟨rfl, by decide, a_1, a2, R3⟩, ?_⟩))
    rintro M4 ⟨hX4, hF4⟩
    have R4 := R3.fx hF4 (by decide)
    refine And.intro rfl (And.intro rfl (And.intro rfl ⟨(tk3, q3, b, 23), ⟨rfl, by decide, b_1, b2, R4⟩, ?_⟩))
    rintro M5 ⟨hX5, hF5⟩
    have R5 := R4.fx hF5 (by decide)
    rw [vk] at hX4 hX5
    refine And.intro rfl (And.intro rfl (And.intro rfl (And.intro rfl ⟨(21, 23, q.2.2.2 a, q.2.2.2 b), ⟨rfl, by decide, by decide, hF5.keep (by decide) (by decide) (by decide) hX4, by omega, hX5, by omega⟩, ?_⟩)))
    rintro M6 ⟨hA6, hB6, hF6⟩
    have R6 := R5.fk hF6.K
    have nA : nd (q.2.2.2 a / q.2.2.2 b) ≤ 64 := Nat.le_trans (nd_mono (Nat.div_le_self _ _)) na
    have nB : nd (q.2.2.2 a % q.2.2.2 b) ≤ 64 := Nat.le_trans (nd_md b0) nb_
    refine And.intro rfl ⟨(tk3, q3, x, y, q.2.2.2 a / q.2.2.2 b, q.2.2.2 a % q.2.2.2 b), ⟨rfl, ix, iy, R6, by omega, hx.imp id (lv x), hy.imp id (lv y), hxy, hA6, nA, hB6, nB⟩, ?_⟩
    rintro r M7 ⟨rfl, R7, hF7⟩
    have ebr : dvmF n q x y a b = brF n tk3 q3 x y (q.2.2.2 a / q.2.2.2 b) (q.2.2.2 a % q.2.2.2 b) := by
      rw [e2]
      unfold brF
      rw [kq x _ hx, kq y _ hy, vk]
    refine Or.inl ?_
    show (brF n tk3 q3 x y (q.2.2.2 a / q.2.2.2 b) (q.2.2.2 a % q.2.2.2 b)).1 = (dvmF n q x y a b).1 ∧ XN n M7 0 (dvmF n q x y a b).2 ∧ FP M0 M7
    rw [ebr]
    exact ⟨rfl, R7, ((((((hF1.P.tr hF2.P).tr hF3.P).tr (hF4.P (by decide))).tr (hF5.P (by decide))).tr hF6.K.P).tr hF7.P)⟩
  refine And.intro ⟨⟨by omega, by omega⟩, ⟨by omega, by omega⟩⟩ (And.intro (fun c1 => ?_) (fun c2 => ?_))
  · exact And.intro (go (fun z => c1 z.1)) trivial
  refine And.intro ⟨⟨by omega, by omega⟩, ⟨by omega, by omega⟩⟩ (And.intro (fun c1 => ?_) (fun c2 => ?_))
  · exact And.intro (go (fun z => z.2 (by omega))) trivial
  refine Or.inl ?_
  show -7 = ((dvmF n q x y a b)).1 ∧ XN n M0 0 ((dvmF n q x y a b)).2 ∧ FP M0 M0
  rw [e, if_pos ⟨by omega, by omega⟩]
  exact ⟨rfl, R, FP.rf _⟩
theorem imX7_divmod {l : Launch} {Z : ZT} (hZ : ZOk Z) : Impl l Z yX7_divmod cX7_divmod 7 (some .int) 7 (cX4 dvmF (zN Z)) := mkImpl (rt := 1) (CL := [(186, some 7, (c_isLN (zN Z))), (100, some 1, (c_isLiveX (zN Z))), (180, some 1, (c_takeA (zN Z))), (113, some 1, (c_readX (zN Z))), (189, some 0, c_divX), (193, some 7, (c_bring (zN Z)))]) hZ.1 hZ.2.1 (by decide +kernel) kX7_divmod fwX7 iwX7 lwX7 trivial (Nat.le_of_ble_eq_true rfl) (List.forall_mem_cons.mpr ⟨gX7_186 hZ (by decide), List.forall_mem_cons.mpr ⟨gX7_100 hZ (by decide), List.forall_mem_cons.mpr ⟨gX7_180 hZ (by decide), List.forall_mem_cons.mpr ⟨gX7_113 hZ (by decide), List.forall_mem_cons.mpr ⟨gX7_189 hZ (by decide), List.forall_mem_cons.mpr ⟨gX7_193 hZ (by decide), fun q h => absurd h List.not_mem_nil⟩⟩⟩⟩⟩⟩) ((v_divmodX (zN Z)))
/-! ===== the class: feed, end, number, fault, text, out ===== -/
def c_feedX : Call := ⟨TS × Int × Int × Int × Int × Int, 6, (fun (T, a, b, c, d, e) vs M => vs = [.inr (.inr 0), .inl a, .inl b, .inl c, .inl d, .inl e] ∧ inR a ∧ inR b ∧ inR c ∧ inR d ∧ inR e ∧ XT M T), .inr (fun (T, a, b, c, d, e) _ M x M' => x = (feF T a b c d e).1 ∧ XT M' (feF T a b c d e).2 ∧ FXT M M')⟩
theorem v_feedX (n : Nn) : Ver tX7_feed (fdX7, icX7, lcX7, [(238, some 6, c_hasSpT), (241, some 6, c_putB)]) 1 6 n c_feedX := by
  rintro ⟨T, a, b, c, d, e⟩ vs M0 ⟨rfl, ia, ib, ic, id, ie, hT⟩ aw run
  have h2 := hT.2.1
  change aw 0 [some (.inr (.inr 0)), some (.inl a), some (.inl b), some (.inl c), some (.inl d), some (.inl e)] [] M0
  refine run 90 [] _ _ _ _ ?_
  refine And.intro rfl (And.intro rfl ⟨(T, 20), ⟨rfl, hT, by omega, by omega⟩, ?_⟩)
  rintro x M0 ⟨⟨rfl, hs⟩ | ⟨rfl, hs⟩, rfl⟩
  rotate_left
  · refine And.intro ⟨⟨by omega, by omega⟩, ⟨by omega, by omega⟩⟩ (And.intro (fun c1 => absurd c1 (by omega)) (fun _ => ?_))
    refine Or.inl ?_
    show -1 = (feF T a b c d e).1 ∧ XT M0 (feF T a b c d e).2 ∧ FXT M0 M0
    rw [show feF T a b c d e = (-1, T) from if_pos (by omega)]
    exact ⟨rfl, hT, fun _ _ _ => rfl⟩
  refine And.intro ⟨⟨by omega, by omega⟩, ⟨by omega, by omega⟩⟩ (And.intro (fun _ => ?_) (fun c2 => absurd c2 (by omega)))
  refine And.intro rfl (And.intro rfl ⟨(T, a), ⟨rfl, ia, hT, by omega⟩, ?_⟩)
  rintro M1 ⟨T1, hF1⟩
  refine And.intro rfl (And.intro rfl ⟨(putT T a 4, b), ⟨rfl, ib, T1, by show T.1 + 4 + 4 ≤ 1000; omega⟩, ?_⟩)
  rintro M2 ⟨T2, hF2⟩
  refine And.intro rfl (And.intro rfl ⟨(putT (putT T a 4) b 4, c), ⟨rfl, ic, T2, by show T.1 + 4 + 4 + 4 ≤ 1000; omega⟩, ?_⟩)
  rintro M3 ⟨T3, hF3⟩
  refine And.intro rfl (And.intro rfl ⟨(putT (putT (putT T a 4) b 4) c 4, d), ⟨rfl, id, T3, by show T.1 + 4 + 4 + 4 + 4 ≤ 1000; omega⟩, ?_⟩)
  rintro M4 ⟨T4, hF4⟩
  refine And.intro rfl (And.intro rfl ⟨(putT (putT (putT (putT T a 4) b 4) c 4) d 4, e), ⟨rfl, ie, T4, by show T.1 + 4 + 4 + 4 + 4 + 4 ≤ 1000; omega⟩, ?_⟩)
  rintro M5 ⟨T5, hF5⟩
  have t1 : M5 39 1 = ((T.1 + 20 : Nat) : Int) := T5.1
  refine And.intro rfl (And.intro rfl (Or.inl ?_))
  show M5 39 1 = (feF T a b c d e).1 ∧ XT M5 (feF T a b c d e).2 ∧ FXT M0 M5
  rw [show feF T a b c d e = (((T.1 + 20 : Nat) : Int), (T.1 + 20, fedT T a b c d e)) from if_neg (by omega)]
  refine ⟨t1, T5.cong (f := fedT T a b c d e) (fun i hi => ?_), (((hF1.tr hF2).tr hF3).tr hF4).tr hF5⟩
  change i < T.1 + 4 + 4 + 4 + 4 + 4 at hi
  show fedT T a b c d e i = if i < T.1 + 4 + 4 + 4 + 4 then (if i < T.1 + 4 + 4 + 4 then (if i < T.1 + 4 + 4 then (if i < T.1 + 4 then (if i < T.1 then T.2 i else byt a (i - T.1)) else byt b (i - (T.1 + 4))) else byt c (i - (T.1 + 4 + 4))) else byt d (i - (T.1 + 4 + 4 + 4))) else byt e (i - (T.1 + 4 + 4 + 4 + 4))
  unfold fedT sel5
  by_cases c0 : i < T.1
  · rw [if_pos c0, if_pos (by omega), if_pos (by omega), if_pos (by omega), if_pos (by omega), if_pos c0]
  rw [if_neg c0]
  by_cases c1 : i < T.1 + 4
  · rw [if_pos (by omega), if_pos (by omega), if_pos (by omega), if_pos (by omega), if_pos c1, if_neg c0, show (i - T.1) % 4 = i - T.1 by omega]
  rw [if_neg (by omega)]
  by_cases c2 : i < T.1 + 4 + 4
  · rw [if_pos (by omega), if_pos (by omega), if_pos (by omega), if_pos c2, if_neg c1, show (i - T.1) % 4 = i - (T.1 + 4) by omega]
  rw [if_neg (by omega)]
  by_cases c3 : i < T.1 + 4 + 4 + 4
  · rw [if_pos (by omega), if_pos (by omega), if_pos c3, if_neg c2, show (i - T.1) % 4 = i - (T.1 + 4 + 4) by omega]
  rw [if_neg (by omega)]
  by_cases c4 : i < T.1 + 4 + 4 + 4 + 4
  · rw [if_pos (by omega), if_pos c4, if_neg c3, show (i - T.1) % 4 = i - (T.1 + 4 + 4 + 4) by omega]
  rw [if_neg (by omega), if_neg c4, show (i - T.1) % 4 = i - (T.1 + 4 + 4 + 4 + 4) by omega]
theorem imX7_feed {l : Launch} {Z : ZT} (hZ : ZOk Z) : Impl l Z yX7_feed cX7_feed 6 (some .int) 2 c_feedX := mkImpl (rt := 1) (CL := [(238, some 6, c_hasSpT), (241, some 6, c_putB)]) hZ.1 hZ.2.1 (by decide +kernel) kX7_feed fwX7 iwX7 lwX7 trivial (Nat.le_of_ble_eq_true rfl) (List.forall_mem_cons.mpr ⟨gX7_238 hZ (by decide), List.forall_mem_cons.mpr ⟨gX7_241 hZ (by decide), fun q h => absurd h List.not_mem_nil⟩⟩) ((v_feedX _))
def c_endX : Call := ⟨TS × Int, 2, (fun (T, k) vs M => vs = [.inr (.inr 0), .inl k] ∧ inR k ∧ XT M T), .inr (fun (T, k) _ M x M' => x = (ndF T k).1 ∧ XT M' (ndF T k).2 ∧ FXT M M')⟩
theorem v_endX (n : Nn) : Ver tX7_end (fdX7, icX7, lcX7, []) 2 2 n c_endX := by
  rintro ⟨T, k⟩ vs M0 ⟨rfl, ik, hT⟩ aw run
  have h1 := hT.1
  have h2 := hT.2.1
  unfold inR at ik
  have bad : ¬ (0 ≤ k ∧ k ≤ (T.1 : Int)) → aw 15 [some (.inr (.inr 0)), some (.inl k)] [] M0 := by
    intro hb
    refine run 60 [] _ _ _ _ ?_
    refine And.intro (Or.inl rfl) (Or.inl ?_)
    show 0 = (ndF T k).1 ∧ XT M0 (ndF T k).2 ∧ FXT M0 M0
    rw [show ndF T k = (0, T) from if_neg hb]
    exact ⟨rfl, hT, fun _ _ _ => rfl⟩
  change aw 0 [some (.inr (.inr 0)), some (.inl k)] [] M0
  refine run 60 [15] _ _ _ _ ?_
  refine And.intro ⟨⟨by omega, by omega⟩, ⟨by omega, by omega⟩⟩ (And.intro (fun c1 => ?_) (fun c2 => ?_))
  · exact And.intro (bad (by omega)) trivial
  refine And.intro rfl (And.intro rfl ?_)
  refine And.intro ⟨⟨by omega, by omega⟩, ⟨by omega, by omega⟩⟩ (And.intro (fun c1 => ?_) (fun c2 => ?_))
  rotate_left
  · exact And.intro (bad (by omega)) trivial
  refine And.intro rfl (And.intro rfl (And.intro (Or.inr rfl) (Or.inl ?_)))
  show 1 = (ndF T k).1 ∧ XT (up2 M0 39 1 k) (ndF T k).2 ∧ FXT M0 (up2 M0 39 1 k)
  rw [show ndF T k = (1, (k.toNat, T.2)) from if_pos (by omega)]
  refine ⟨rfl, ⟨by rw [up2_s]; show k = (k.toNat : Int); omega, by show k.toNat ≤ 1000; omega, fun i hi => ?_⟩, fun o p _ => up2_i p⟩
  change i < k.toNat at hi
  rw [up2_i (by decide)]
  exact hT.2.2 i (by omega)
theorem imX7_end {l : Launch} {Z : ZT} (hZ : ZOk Z) : Impl l Z yX7_end cX7_end 2 (some .boolean) 1 c_endX := mkImpl (rt := 2) (CL := []) hZ.1 hZ.2.1 (by decide +kernel) kX7_end fwX7 iwX7 lwX7 trivial (Nat.le_of_ble_eq_true rfl) (fun q h => absurd h List.not_mem_nil) ((v_endX _))
def c_faultX : Call := ⟨Int × Nat, 1, (fun (f, _) vs M => vs = [.inr (.inr 0)] ∧ M 0 9 = f), .inr (fun (f, _) _ M x M' => x = f ∧ M' = M)⟩
theorem v_faultX (n : Nn) : Ver tX7_fault (fdX7, icX7, lcX7, []) 1 1 n c_faultX := by
  rintro ⟨f, z⟩ vs M0 ⟨rfl, hf⟩ aw run
  change aw 0 [some (.inr (.inr 0))] [] M0
  refine run 60 [] _ _ _ _ ?_
  exact And.intro rfl (Or.inl ⟨hf, rfl⟩)
theorem imX7_fault {l : Launch} {Z : ZT} (hZ : ZOk Z) : Impl l Z yX7_fault cX7_fault 1 (some .int) 1 c_faultX := mkImpl (rt := 1) (CL := []) hZ.1 hZ.2.1 (by decide +kernel) kX7_fault fwX7 iwX7 lwX7 trivial (Nat.le_of_ble_eq_true rfl) (fun q h => absurd h List.not_mem_nil) ((v_faultX _))
def c_outX : Call := ⟨OS × Int, 2, (fun (O, i) vs M => vs = [.inr (.inr 0), .inl i] ∧ inR i ∧ XO M O), .inr (fun (O, i) _ M x M' => x = (if 0 ≤ i ∧ i < (O.1 : Int) then O.2 i.toNat else -1) ∧ M' = M)⟩
theorem v_outX (n : Nn) : Ver tX7_out (fdX7, icX7, lcX7, [(258, some 3, c_bytA)]) 1 2 n c_outX := by
  rintro ⟨O, i⟩ vs M0 ⟨rfl, ii, hO⟩ aw run
  change aw 0 [some (.inr (.inr 0)), some (.inl i)] [] M0
  refine run 60 [] _ _ _ _ ?_
  refine And.intro rfl (And.intro rfl ⟨(O, i), ⟨rfl, ii, hO⟩, ?_⟩)
  rintro x M0 ⟨rfl, rfl⟩
  exact Or.inl ⟨rfl, rfl⟩
theorem imX7_out {l : Launch} {Z : ZT} (hZ : ZOk Z) : Impl l Z yX7_out cX7_out 2 (some .int) 2 c_outX := mkImpl (rt := 1) (CL := [(258, some 3, c_bytA)]) hZ.1 hZ.2.1 (by decide +kernel) kX7_out fwX7 iwX7 lwX7 trivial (Nat.le_of_ble_eq_true rfl) (List.forall_mem_cons.mpr ⟨gX7_258 hZ (by decide), fun q h => absurd h List.not_mem_nil⟩) ((v_outX _))
def c_textX (n : Nn) : Call := ⟨RS × OS × Int × Int, 3, (fun (q, O, a, b) vs M => vs = [.inr (.inr 0), .inl a, .inl b] ∧ inR a ∧ inR b ∧ XN n M 0 q ∧ XO M O), .inr (fun (q, O, a, b) _ M x M' => x = (txF n q O a b).1 ∧ XO M' (txF n q O a b).2 ∧ XN n M' 0 q ∧ ∀ o, (o < 7 ∨ o = 39 ∨ o = 40 ∨ 42 < o) → M' o = M o)⟩
theorem v_textX (n : Nn) : Ver tX7_text (fdX7, icX7, lcX7, [(100, some 1, c_isLiveX n), (244, none, c_btw 2 36), (113, some 1, c_readX n), (254, some 3, c_wrD)]) 1 3 n (c_textX n) := by
  rintro ⟨q, O, a, b⟩ vs M0 ⟨rfl, ia, ib, R, hO⟩ aw run
  change aw 0 [some (.inr (.inr 0)), some (.inl a), some (.inl b)] [] M0
  refine run 60 [] _ _ _ _ ?_
  refine And.intro rfl (And.intro rfl ⟨(0, q, a), ⟨rfl, ia, R⟩, ?_⟩)
  rintro x M0 ⟨⟨rfl, ha⟩ | ⟨rfl, ha⟩, rfl⟩
  rotate_left
  · refine And.intro ⟨⟨by omega, by omega⟩, ⟨by omega, by omega⟩⟩ (And.intro (fun c1 => absurd c1 (by omega)) (fun _ => ?_))
    refine Or.inl ?_
    show -2 = (txF n q O a b).1 ∧ XO M0 (txF n q O a b).2 ∧ XN n M0 0 q ∧ ∀ o, (o < 7 ∨ o = 39 ∨ o = 40 ∨ 42 < o) → M0 o = M0 o
    rw [show txF n q O a b = (-2, O) from if_neg ha]
    exact ⟨rfl, hO, R, fun _ _ => rfl⟩
  refine And.intro ⟨⟨by omega, by omega⟩, ⟨by omega, by omega⟩⟩ (And.intro (fun _ => ?_) (fun c2 => absurd c2 (by omega)))
  obtain ⟨a, rfl, a_1, a_2⟩ := ha.nat
  have Aa := R.at a_1 a_2
  have e : txF n q O a b = (if 2 ≤ b ∧ b ≤ 36 then ((tcB b.toNat (q.2.2.2 a) : Int), (tcB b.toNat (q.2.2.2 a), fun i => chB (q.2.2.2 a / b.toNat ^ (tcB b.toNat (q.2.2.2 a) - 1 - i) % b.toNat))) else (-3, O)) := if_pos (Lv.of a_1 a_2)
  refine ⟨(b, 0), ⟨rfl, ib⟩, ?_⟩
  rintro x M0 ⟨⟨rfl, hb⟩ | ⟨rfl, hb⟩, rfl⟩
  rotate_left
  · refine And.intro ⟨⟨by omega, by omega⟩, ⟨by omega, by omega⟩⟩ (And.intro (fun c1 => absurd c1 (by omega)) (fun _ => ?_))
    refine Or.inl ?_
    show -3 = (txF n q O a b).1 ∧ XO M0 (txF n q O a b).2 ∧ XN n M0 0 q ∧ ∀ o, (o < 7 ∨ o = 39 ∨ o = 40 ∨ 42 < o) → M0 o = M0 o
    rw [e, if_neg hb]
    exact ⟨rfl, hO, R, fun _ _ => rfl⟩
  refine And.intro ⟨⟨by omega, by omega⟩, ⟨by omega, by omega⟩⟩ (And.intro (fun _ => ?_) (fun c2 => absurd c2 (by omega)))
  rw [if_pos hb] at e
  obtain ⟨b, rfl⟩ : ∃ k : Nat, b = (k : Int) := ⟨b.toNat, by omega⟩
  rw [Int.toNat_natCast] at e
  refine And.intro rfl (And.intro rfl (And.intro rfl ⟨(0, q, a, 21), ⟨rfl, by decide, a_1, a_2, R⟩, ?_⟩))
  rintro M1 ⟨hX1, hF1⟩
  have R1 := R.fx hF1 (by decide)
  refine And.intro rfl (And.intro rfl (And.intro rfl ⟨(21, b, q.2.2.2 a), ⟨rfl, by decide, by omega, by omega, hX1, by omega⟩, ?_⟩))
  rintro M2 ⟨hO2, hF2⟩
  have c2 : M2 41 1 = (tcB b (q.2.2.2 a) : Int) := hO2.1
  refine And.intro rfl (And.intro rfl (Or.inl ?_))
  show M2 41 1 = (txF n q O a b).1 ∧ XO M2 (txF n q O a b).2 ∧ XN n M2 0 q ∧ ∀ o, (o < 7 ∨ o = 39 ∨ o = 40 ∨ 42 < o) → M2 o = M0 o
  rw [e]
  refine ⟨c2, hO2, R1.fr (fun o p1 p2 => hF2 o (by omega) (by omega) (by omega) (by omega)), fun o ho => ?_⟩
  rw [hF2 o (by omega) (by omega) (by omega) (by omega), hF1 o (by omega) (by omega)]
theorem imX7_text {l : Launch} {Z : ZT} (hZ : ZOk Z) : Impl l Z yX7_text cX7_text 3 (some .int) 4 (c_textX (zN Z)) := mkImpl (rt := 1) (CL := [(100, some 1, (c_isLiveX (zN Z))), (244, none, (c_btw 2 36)), (113, some 1, (c_readX (zN Z))), (254, some 3, c_wrD)]) hZ.1 hZ.2.1 (by decide +kernel) kX7_text fwX7 iwX7 lwX7 trivial (Nat.le_of_ble_eq_true rfl) (List.forall_mem_cons.mpr ⟨gX7_100 hZ (by decide), List.forall_mem_cons.mpr ⟨gX7_244 hZ (by decide), List.forall_mem_cons.mpr ⟨gX7_113 hZ (by decide), List.forall_mem_cons.mpr ⟨gX7_254 hZ (by decide), fun q h => absurd h List.not_mem_nil⟩⟩⟩⟩) ((v_textX (zN Z)))
def c_numberX (n : Nn) : Call := ⟨RS × TS × Int × Int, 3, (fun (q, T, d, b) vs M => vs = [.inr (.inr 0), .inl d, .inl b] ∧ inR d ∧ inR b ∧ XN n M 0 q ∧ XT M T), .inr (fun (q, T, d, b) _ M x M' => x = (nmF n q T d b).1 ∧ XN n M' 0 (nmF n q T d b).2.1 ∧ M' 0 9 = (nmF n q T d b).2.2.1 ∧ XT M' (nmF n q T d b).2.2.2 ∧ ∀ o, 40 < o → M' o = M o)⟩
theorem v_numberX (n : Nn) : Ver tX7_number (fdX7, icX7, lcX7, [(100, some 1, c_isLiveX n), (244, none, c_btw 2 36), (247, some 6, c_digA), (250, some 6, c_readT), (169, some 1, c_come n)]) 1 4 n (c_numberX n) := by
  rintro ⟨q, T, d, b⟩ vs M0 ⟨rfl, id, ib, R0, hT0⟩ aw run
  have h2 := hT0.2.1
  change aw 0 [some (.inr (.inr 0)), some (.inl d), some (.inl b), none] [] M0
  refine run 90 [53] _ _ _ _ ?_
  refine And.intro rfl (And.intro rfl ?_)
  obtain ⟨M1, eM1⟩ : ∃ M1, M1 = up2 M0 0 9 (-1) := ⟨_, rfl⟩
  conv => whnf
  rw [← eM1]
  have f1 : ∀ o, o ≠ 0 → M1 o = M0 o := fun o h => by rw [eM1, up2_i h]
  have R : XN n M1 0 q := R0.fr (fun o a _ => f1 o (by omega))
  have hT : XT M1 T := hT0.fr (f1 39 (by decide)) (f1 40 (by decide))
  have g1 : M1 0 9 = -1 := by rw [eM1, up2_s]
  refine And.intro rfl ⟨(0, q, d), ⟨rfl, id, R⟩, ?_⟩
  rintro x M1 ⟨⟨rfl, hd⟩ | ⟨rfl, hd⟩, rfl⟩
  rotate_left
  · refine And.intro ⟨⟨by omega, by omega⟩, ⟨by omega, by omega⟩⟩ (And.intro (fun c1 => absurd c1 (by omega)) (fun _ => ?_))
    refine Or.inl ?_
    show -2 = (nmF n q T d b).1 ∧ XN n M1 0 (nmF n q T d b).2.1 ∧ M1 0 9 = (nmF n q T d b).2.2.1 ∧ XT M1 (nmF n q T d b).2.2.2 ∧ ∀ o, 40 < o → M1 o = M0 o
    rw [show nmF n q T d b = (-2, q, -1, T) from if_neg hd]
    exact ⟨rfl, R, g1, hT, fun o h => f1 o (by omega)⟩
  refine And.intro ⟨⟨by omega, by omega⟩, ⟨by omega, by omega⟩⟩ (And.intro (fun _ => ?_) (fun c2 => absurd c2 (by omega)))
  obtain ⟨d, rfl, d_1, d_2⟩ := hd.nat
  have e : nmF n q T d b = (if 2 ≤ b ∧ b ≤ 36 then (if gdF T.2 b T.1 0 < T.1 ∨ T.1 = 0 then (-1, q, (gdF T.2 b T.1 0 : Int), (0, T.2)) else if 64 < nd (hvF T.2 b.toNat T.1) then (-8, q, -1, (0, T.2)) else ((cmR n 0 q d (hvF T.2 b.toNat T.1)).1, (cmR n 0 q d (hvF T.2 b.toNat T.1)).2, -1, (0, T.2))) else (-3, q, -1, T)) := if_pos (Lv.of d_1 d_2)
  refine ⟨(b, 0), ⟨rfl, ib⟩, ?_⟩
  rintro x M1 ⟨⟨rfl, hb⟩ | ⟨rfl, hb⟩, rfl⟩
  rotate_left
  · refine And.intro ⟨⟨by omega, by omega⟩, ⟨by omega, by omega⟩⟩ (And.intro (fun c1 => absurd c1 (by omega)) (fun _ => ?_))
    refine Or.inl ?_
    show -3 = (nmF n q T d b).1 ∧ XN n M1 0 (nmF n q T d b).2.1 ∧ M1 0 9 = (nmF n q T d b).2.2.1 ∧ XT M1 (nmF n q T d b).2.2.2 ∧ ∀ o, 40 < o → M1 o = M0 o
    rw [e, if_neg hb]
    exact ⟨rfl, R, g1, hT, fun o h => f1 o (by omega)⟩
  refine And.intro ⟨⟨by omega, by omega⟩, ⟨by omega, by omega⟩⟩ (And.intro (fun _ => ?_) (fun c2 => absurd c2 (by omega)))
  rw [if_pos hb] at e
  refine And.intro rfl (And.intro rfl ⟨(T, b), ⟨rfl, hT, hb.1, hb.2⟩, ?_⟩)
  rintro x M1 ⟨rfl, rfl⟩
  have gg := gdF_ge T.2 b T.1 0
  have t1 := hT.1
  have z0 : ∀ M : Mem, XT (up2 M 39 1 0) (0, T.2) := fun M => ⟨by rw [up2_s]; rfl, by show 0 ≤ 1000; omega, fun i hi => by change i < 0 at hi; omega⟩
  have bad : (gdF T.2 b T.1 0 < T.1 ∨ T.1 = 0) → aw 53 [some (.inr (.inr 0)), some (.inl (d : Int)), some (.inl b), some (.inl (gdF T.2 b T.1 0 : Int))] [] M1 := by
    intro hbad
    refine run 60 [] _ _ _ _ ?_
    refine And.intro rfl (And.intro rfl (And.intro rfl (Or.inl ?_)))
    show -1 = (nmF n q T d b).1 ∧ XN n (up2 (up2 M1 0 9 (gdF T.2 b T.1 0 : Int)) 39 1 0) 0 (nmF n q T d b).2.1 ∧ up2 (up2 M1 0 9 (gdF T.2 b T.1 0 : Int)) 39 1 0 0 9 = (nmF n q T d b).2.2.1 ∧ XT (up2 (up2 M1 0 9 (gdF T.2 b T.1 0 : Int)) 39 1 0) (nmF n q T d b).2.2.2 ∧ ∀ o, 40 < o → up2 (up2 M1 0 9 (gdF T.2 b T.1 0 : Int)) 39 1 0 o = M0 o
    rw [e, if_pos hbad]
    refine ⟨rfl, R.fr (fun o p1 p2 => ?_), ?_, z0 _, fun o h => ?_⟩
    · rw [up2_i (by omega), up2_i (by omega)]
    · rw [up2_i (by decide), up2_s]
    · rw [up2_i (by omega), up2_i (by omega), f1 o (by omega)]
  refine And.intro ⟨⟨by omega, by omega⟩, ⟨by omega, by omega⟩⟩ (And.intro (fun c1 => ?_) (fun c2 => ?_))
  · exact And.intro (bad (by omega)) trivial
  refine And.intro rfl (And.intro rfl ?_)
  refine And.intro ⟨⟨by omega, by omega⟩, ⟨by omega, by omega⟩⟩ (And.intro (fun c1 => ?_) (fun c2 => ?_))
  rotate_left
  · exact And.intro (bad (by omega)) trivial
  rw [if_neg (by omega)] at e
  obtain ⟨b, rfl⟩ : ∃ k : Nat, b = (k : Int) := ⟨b.toNat, by omega⟩
  rw [Int.toNat_natCast] at e
  refine And.intro rfl (And.intro rfl (And.intro rfl ⟨(T, 21, b), ⟨rfl, by decide, hT, by omega, by omega, fun i hi => gdF_lt T.2 b T.1 0 i (by omega) (by omega)⟩, ?_⟩))
  rintro M2 ⟨v, hX2, hv, hF2⟩
  refine And.intro rfl (And.intro rfl (And.intro rfl (And.intro rfl ?_)))
  obtain ⟨M3, eM3⟩ : ∃ M3, M3 = up2 M2 39 1 0 := ⟨_, rfl⟩
  conv => whnf
  rw [← eM3]
  have f3 : ∀ o, o ≠ 39 → M3 o = M2 o := fun o h => by rw [eM3, up2_i h]
  have R3 : XN n M3 0 q := (R.fx hF2 (by decide)).fr (fun o p1 p2 => f3 o (by omega))
  have hX3 : XR M3 21 v := by
    unfold XR
    rw [f3 21 (by decide), f3 (21 + 1) (by decide)]
    exact hX2
  have hT3 : XT M3 (0, T.2) := by rw [eM3]; exact z0 M2
  refine And.intro rfl ⟨(0, q, d, 21, v), ⟨rfl, R3, by omega, d_1, d_2, by decide, hX3, by omega⟩, ?_⟩
  rintro x M4 ⟨h, hF4⟩
  have g4 : M4 0 9 = -1 := by rw [hF4 0 (by decide), f3 0 (by decide), hF2 0 (by decide) (by decide)]; exact g1
  have hT4 : XT M4 (0, T.2) := hT3.fr (hF4 39 (by decide)) (hF4 40 (by decide))
  have fo : ∀ o, 40 < o → M4 o = M0 o := fun o h => by rw [hF4 o (by omega), f3 o (by omega), hF2 o (by omega) (by omega), f1 o (by omega)]
  refine Or.inl ?_
  show x = (nmF n q T d b).1 ∧ XN n M4 0 (nmF n q T d b).2.1 ∧ M4 0 9 = (nmF n q T d b).2.2.1 ∧ XT M4 (nmF n q T d b).2.2.2 ∧ ∀ o, 40 < o → M4 o = M0 o
  rcases h with ⟨h6, rfl, R4⟩ | ⟨h6, rfl, R4⟩
  · have : 64 < nd (hvF T.2 b T.1) := by
      rcases hv with ⟨v1, v2⟩ | ⟨v1, v2, v3⟩
      · omega
      · exact v3
    rw [e, if_pos this]
    exact ⟨rfl, R.dr R4, g4, hT4, fo⟩
  · have ev : v = hvF T.2 b T.1 := by
      rcases hv with ⟨v1, v2⟩ | ⟨v1, v2, v3⟩
      · exact v2
      · omega
    rw [e, ← ev, if_neg (by omega)]
    exact ⟨rfl, R4, g4, hT4, fo⟩
theorem imX7_number {l : Launch} {Z : ZT} (hZ : ZOk Z) : Impl l Z yX7_number cX7_number 4 (some .int) 7 (c_numberX (zN Z)) := mkImpl (rt := 1) (CL := [(100, some 1, (c_isLiveX (zN Z))), (244, none, (c_btw 2 36)), (247, some 6, c_digA), (250, some 6, c_readT), (169, some 1, (c_come (zN Z)))]) hZ.1 hZ.2.1 (by decide +kernel) kX7_number fwX7 iwX7 lwX7 trivial (Nat.le_of_ble_eq_true rfl) (List.forall_mem_cons.mpr ⟨gX7_100 hZ (by decide), List.forall_mem_cons.mpr ⟨gX7_244 hZ (by decide), List.forall_mem_cons.mpr ⟨gX7_247 hZ (by decide), List.forall_mem_cons.mpr ⟨gX7_250 hZ (by decide), List.forall_mem_cons.mpr ⟨gX7_169 hZ (by decide), fun q h => absurd h List.not_mem_nil⟩⟩⟩⟩⟩) ((v_numberX (zN Z)))
