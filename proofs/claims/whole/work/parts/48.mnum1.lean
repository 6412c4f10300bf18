/-! ===== what the calls on numbers answer; the reference's ===== -/
theorem Lv.nat {n : Nn} {q : RS} {h : Int} (l : Lv n q h) : ∃ k : Nat, h = (k : Int) ∧ k < n.1 ∧ 0 < q.2.1 k := ⟨h.toNat, by have := l.1; omega, by have := l.1; have := l.2.1; omega, l.2.2⟩
theorem Lv.of {n : Nn} {q : RS} {h : Nat} (h1 : h < n.1) (h2 : 0 < q.2.1 h) : Lv n q (h : Int) := ⟨by omega, by omega, h2⟩
def relF (n : Nn) (q : RS) (h : Int) : Int × RS := if Lv n q h then (0, (q.1, va_up q.2.1 h.toNat 0, q.2.2.1, q.2.2.2)) else (-2, q)
def limF (n : Nn) (q : RS) (h i : Int) : Int := if Lv n q h then (if i < 0 then -1 else dgZ (q.2.2.2 h.toNat) i) else -2
def lokF (n : Nn) (q : RS) (h w : Int) : Int := if Lv n q h then (if w = 0 then (nd (q.2.2.2 h.toNat) : Int) else if w = 1 then q.2.1 h.toNat else if w = 2 then q.1 h.toNat else if w = 3 then (nb (q.2.2.2 h.toNat) : Int) else -1) else -2
def cprF (n : Nn) (q : RS) (a b : Int) : Int := if Lv n q a ∧ Lv n q b then 1 + cm3 (q.2.2.2 a.toNat) (q.2.2.2 b.toNat) else -2
def addF (n : Nn) (q : RS) (d a b : Int) : Int × RS := if Lv n q d ∧ Lv n q a ∧ Lv n q b then (if 64 < nd (q.2.2.2 a.toNat + q.2.2.2 b.toNat) then (-8, q) else cmR n 0 q d.toNat (q.2.2.2 a.toNat + q.2.2.2 b.toNat)) else (-2, q)
def subF (n : Nn) (q : RS) (d a b : Int) : Int × RS := if Lv n q d ∧ Lv n q a ∧ Lv n q b then (if q.2.2.2 a.toNat < q.2.2.2 b.toNat then (-5, q) else cmR n 0 q d.toNat (q.2.2.2 a.toNat - q.2.2.2 b.toNat)) else (-2, q)
/-- one run is taken ahead, then the number comes -/
def tcR (n : Nn) (tk : Nat) (q : RS) (k : Int) (f : Nat → RS → Int × RS) : Int × RS := if (tkR n tk q k).1 = 0 then (-4, (tkR n tk q k).2.2) else f (tkR n tk q k).2.1 (tkR n tk q k).2.2
def mulF (n : Nn) (q : RS) (d a b : Int) : Int × RS := if Lv n q d ∧ Lv n q a ∧ Lv n q b then (if 0 < nd (q.2.2.2 a.toNat) ∧ 0 < nd (q.2.2.2 b.toNat) ∧ 64 < nd (q.2.2.2 a.toNat) + nd (q.2.2.2 b.toNat) then (-8, q) else tcR n 0 q ((nd (q.2.2.2 a.toNat) + nd (q.2.2.2 b.toNat) : Nat) : Int) (fun tk q1 => cmR n tk q1 d.toNat (q.2.2.2 a.toNat * q.2.2.2 b.toNat))) else (-2, q)
/-- the contract of a call on the numbers: its answer and the runs and numbers behind it, as f says -/
abbrev cN1 (f : Nn → RS → Int → Int × RS) : Call := ⟨Nn × RS × Int, 2, (fun (n, q, a) vs M => vs = [.inr (.inr 50), .inl a] ∧ inR a ∧ RN n M 0 q), .inr (fun (n, q, a) _ M x M' => x = (f n q a).1 ∧ RN n M' 0 (f n q a).2 ∧ FN M M')⟩
abbrev cN2 (f : Nn → RS → Int → Int → Int × RS) : Call := ⟨Nn × RS × Int × Int, 3, (fun (n, q, a, b) vs M => vs = [.inr (.inr 50), .inl a, .inl b] ∧ inR a ∧ inR b ∧ RN n M 0 q), .inr (fun (n, q, a, b) _ M x M' => x = (f n q a b).1 ∧ RN n M' 0 (f n q a b).2 ∧ FN M M')⟩
abbrev cN3 (f : Nn → RS → Int → Int → Int → Int × RS) : Call := ⟨Nn × RS × Int × Int × Int, 4, (fun (n, q, a, b, c) vs M => vs = [.inr (.inr 50), .inl a, .inl b, .inl c] ∧ inR a ∧ inR b ∧ inR c ∧ RN n M 0 q), .inr (fun (n, q, a, b, c) _ M x M' => x = (f n q a b c).1 ∧ RN n M' 0 (f n q a b c).2 ∧ FN M M')⟩
abbrev cN4 (f : Nn → RS → Int → Int → Int → Int → Int × RS) : Call := ⟨Nn × RS × Int × Int × Int × Int, 5, (fun (n, q, a, b, c, d) vs M => vs = [.inr (.inr 50), .inl a, .inl b, .inl c, .inl d] ∧ inR a ∧ inR b ∧ inR c ∧ inR d ∧ RN n M 0 q), .inr (fun (n, q, a, b, c, d) _ M x M' => x = (f n q a b c d).1 ∧ RN n M' 0 (f n q a b c d).2 ∧ FN M M')⟩
/-- of a call that only looks -/
abbrev cR1 (f : Nn → RS → Int → Int) : Call := ⟨Nn × RS × Int, 2, (fun (n, q, a) vs M => vs = [.inr (.inr 50), .inl a] ∧ inR a ∧ RN n M 0 q), .inr (fun (n, q, a) _ M x M' => x = f n q a ∧ M' = M)⟩
abbrev cR2 (f : Nn → RS → Int → Int → Int) : Call := ⟨Nn × RS × Int × Int, 3, (fun (n, q, a, b) vs M => vs = [.inr (.inr 50), .inl a, .inl b] ∧ inR a ∧ inR b ∧ RN n M 0 q), .inr (fun (n, q, a, b) _ M x M' => x = f n q a b ∧ M' = M)⟩
theorem v_limb (n0 : Nn) : Ver tX8_limb (fdX8, icX8, lcX8, [(138, some 8, c_isLiveL), (76, some 8, c_at)]) 1 3 n0 (cR2 limF) := by
  rintro ⟨n, q, h, i⟩ vs M0 ⟨rfl, ih, ii, R⟩ aw run
  have ii0 := ii
  unfold inR at ih ii0
  change aw 0 [some (.inr (.inr 50)), some (.inl h), some (.inl i)] [] M0
  refine run 60 [] _ _ _ _ ?_
  refine And.intro rfl ⟨(n, 0, q, h), ⟨rfl, ih, R⟩, ?_⟩
  rintro x M0 ⟨⟨rfl, hh⟩ | ⟨rfl, hh⟩, rfl⟩
  rotate_left
  · refine And.intro ⟨⟨by omega, by omega⟩, ⟨by omega, by omega⟩⟩ (And.intro (fun c1 => absurd c1 (by omega)) (fun _ => ?_))
    refine Or.inl (And.intro ?_ rfl)
    exact (if_neg hh).symm
  refine And.intro ⟨⟨by omega, by omega⟩, ⟨by omega, by omega⟩⟩ (And.intro (fun _ => ?_) (fun c2 => absurd c2 (by omega)))
  obtain ⟨h, rfl, h_1, h_2⟩ := hh.nat
  have Ah := R.at h_1 h_2
  have e : limF n q (h : Int) i = (if i < 0 then -1 else dgZ (q.2.2.2 h) i) := if_pos (Lv.of h_1 h_2)
  have b2 := R.n24
  refine And.intro ⟨⟨by omega, by omega⟩, ⟨by omega, by omega⟩⟩ (And.intro (fun c1 => ?_) (fun c2 => ?_))
  · refine And.intro rfl ⟨(h, i, q.2.2.2 h), ⟨rfl, by omega, ii, Ah.2.2.2.1, by omega⟩, ?_⟩
    rintro x M0 ⟨rfl, rfl⟩
    refine Or.inl (And.intro ?_ rfl)
    exact (e.trans (if_neg (by omega))).symm
  · refine Or.inl (And.intro ?_ rfl)
    exact (e.trans (if_pos (by omega))).symm
theorem imX8_limb {l : Launch} {Z : ZT} (hZ : ZOk Z) : Impl l Z yX8_limb cX8_limb 3 (some .int) 3 (cR2 limF) := mkImpl (rt := 1) (CL := [(138, some 8, c_isLiveL), (76, some 8, c_at)]) hZ.1 hZ.2.1 (by decide +kernel) kX8_limb fwX8 iwX8 lwX8 trivial (Nat.le_of_ble_eq_true rfl) (List.forall_mem_cons.mpr ⟨gX8_138_L hZ (by decide), List.forall_mem_cons.mpr ⟨gX8_76 hZ (by decide), fun q h => absurd h List.not_mem_nil⟩⟩) ((v_limb _))
theorem v_compare (n0 : Nn) : Ver tX8_compare (fdX8, icX8, lcX8, [(138, some 8, c_isLiveL), (91, some 8, c_compared)]) 1 3 n0 (cR2 cprF) := by
  rintro ⟨n, q, a, b⟩ vs M0 ⟨rfl, ia, ib, R⟩ aw run
  have ia0 := ia
  have ib0 := ib
  unfold inR at ia0 ib0
  have bad : ¬ (Lv n q a ∧ Lv n q b) → aw 16 [some (.inr (.inr 50)), some (.inl a), some (.inl b)] [] M0 := by
    intro hb
    refine run 60 [] _ _ _ _ ?_
    exact Or.inl (And.intro (if_neg hb).symm rfl)
  change aw 0 [some (.inr (.inr 50)), some (.inl a), some (.inl b)] [] M0
  refine run 60 [16] _ _ _ _ ?_
  refine And.intro rfl ⟨(n, 0, q, a), ⟨rfl, ia, R⟩, ?_⟩
  rintro x M0 ⟨⟨rfl, ha⟩ | ⟨rfl, ha⟩, rfl⟩
  rotate_left
  · refine And.intro ⟨⟨by omega, by omega⟩, ⟨by omega, by omega⟩⟩ (And.intro (fun _ => ?_) (fun c2 => absurd c2 (by omega)))
    exact And.intro (bad (fun z => ha z.1)) trivial
  refine And.intro ⟨⟨by omega, by omega⟩, ⟨by omega, by omega⟩⟩ (And.intro (fun c1 => absurd c1 (by omega)) (fun _ => ?_))
  refine And.intro rfl ⟨(n, 0, q, b), ⟨rfl, ib, R⟩, ?_⟩
  rintro x M0 ⟨⟨rfl, hb⟩ | ⟨rfl, hb⟩, rfl⟩
  rotate_left
  · refine And.intro ⟨⟨by omega, by omega⟩, ⟨by omega, by omega⟩⟩ (And.intro (fun c1 => absurd c1 (by omega)) (fun _ => ?_))
    exact And.intro (bad (fun z => hb z.2)) trivial
  refine And.intro ⟨⟨by omega, by omega⟩, ⟨by omega, by omega⟩⟩ (And.intro (fun _ => ?_) (fun c2 => absurd c2 (by omega)))
  have b2 := R.n24
  obtain ⟨a, rfl, a_1, a_2⟩ := ha.nat
  have Aa := R.at a_1 a_2
  obtain ⟨b, rfl, b_1, b_2⟩ := hb.nat
  have Ab := R.at b_1 b_2
  refine And.intro rfl ⟨(a, b, q.2.2.2 a, q.2.2.2 b), ⟨rfl, by omega, by omega, Aa.2.2.2.1, by omega, Ab.2.2.2.1, by omega⟩, ?_⟩
  rintro x M0 ⟨rfl, rfl⟩
  exact Or.inl (And.intro (if_pos ⟨Lv.of a_1 a_2, Lv.of b_1 b_2⟩).symm rfl)
theorem imX8_compare {l : Launch} {Z : ZT} (hZ : ZOk Z) : Impl l Z yX8_compare cX8_compare 3 (some .int) 3 (cR2 cprF) := mkImpl (rt := 1) (CL := [(138, some 8, c_isLiveL), (91, some 8, c_compared)]) hZ.1 hZ.2.1 (by decide +kernel) kX8_compare fwX8 iwX8 lwX8 trivial (Nat.le_of_ble_eq_true rfl) (List.forall_mem_cons.mpr ⟨gX8_138_L hZ (by decide), List.forall_mem_cons.mpr ⟨gX8_91 hZ (by decide), fun q h => absurd h List.not_mem_nil⟩⟩) ((v_compare _))
/-- the number comes: what the call that brings it answers -/
theorem RN.com {n : Nn} {M M' : Mem} {tk d v : Nat} {q : RS} {x : Int} (R : RN n M tk q) (hd : d < n.1) (hl : 0 < q.2.1 d) (hv : nd v ≤ 64) (h : x = (comF n.1 n.2.1 tk d q.1 q.2.1 (nd v)).1 ∧ AgM n M' (comF n.1 n.2.1 tk d q.1 q.2.1 (nd v)).2.1 (comF n.1 n.2.1 tk d q.1 q.2.1 (nd v)).2.2.1 0 ∧ M' 50 11 = M 50 11 + (comF n.1 n.2.1 tk d q.1 q.2.1 (nd v)).2.2.2 ∧ FrC M M' d ∧ (x = -4 → M' 51 = M 51 ∧ M' 52 = M 52) ∧ (x ≠ -4 → MH M' d v)) : x = (cmR n tk q d v).1 ∧ RN n M' 0 (cmR n tk q d v).2 ∧ FN M M' := by
  obtain ⟨rfl, a1, a2, a3, a4, a5⟩ := h
  exact ⟨rfl, R.cm hd hl hv a1 a2 a3 a4 a5, a3.N⟩
theorem v_add (n0 : Nn) : Ver tX8_add (fdX8, icX8, lcX8, [(138, some 8, c_isLiveL), (150, some 8, c_sum), (153, some 8, c_comes)]) 1 4 n0 (cN3 addF) := by
  rintro ⟨n, q, d, a, b⟩ vs M0 ⟨rfl, id, ia, ib, R⟩ aw run
  have bad : ¬ (Lv n q d ∧ Lv n q a ∧ Lv n q b) → aw 24 [some (.inr (.inr 50)), some (.inl d), some (.inl a), some (.inl b)] [] M0 := by
    intro hb
    have e : addF n q d a b = (-2, q) := if_neg hb
    refine run 60 [] _ _ _ _ ?_
    refine Or.inl ?_
    show -2 = (addF n q d a b).1 ∧ RN n M0 0 (addF n q d a b).2 ∧ FN M0 M0
    rw [e]
    exact ⟨rfl, R, FN.rf _⟩
  have l52 : lnF n0 52 = 37 := rfl
  change aw 0 [some (.inr (.inr 50)), some (.inl d), some (.inl a), some (.inl b)] [] M0
  refine run 60 [24] _ _ _ _ ?_
  refine And.intro rfl ⟨(n, 0, q, d), ⟨rfl, id, R⟩, ?_⟩
  rintro x M0 ⟨⟨rfl, hd⟩ | ⟨rfl, hd⟩, rfl⟩
  rotate_left
  · refine And.intro ⟨⟨by omega, by omega⟩, ⟨by omega, by omega⟩⟩ (And.intro (fun _ => ?_) (fun c2 => absurd c2 (by omega)))
    exact And.intro (bad (fun z => hd z.1)) trivial
  refine And.intro ⟨⟨by omega, by omega⟩, ⟨by omega, by omega⟩⟩ (And.intro (fun c1 => absurd c1 (by omega)) (fun _ => ?_))
  refine And.intro rfl ⟨(n, 0, q, a), ⟨rfl, ia, R⟩, ?_⟩
  rintro x M0 ⟨⟨rfl, ha⟩ | ⟨rfl, ha⟩, rfl⟩
  rotate_left
  · refine And.intro ⟨⟨by omega, by omega⟩, ⟨by omega, by omega⟩⟩ (And.intro (fun _ => ?_) (fun c2 => absurd c2 (by omega)))
    exact And.intro (bad (fun z => ha z.2.1)) trivial
  refine And.intro ⟨⟨by omega, by omega⟩, ⟨by omega, by omega⟩⟩ (And.intro (fun c1 => absurd c1 (by omega)) (fun _ => ?_))
  refine And.intro rfl ⟨(n, 0, q, b), ⟨rfl, ib, R⟩, ?_⟩
  rintro x M0 ⟨⟨rfl, hb⟩ | ⟨rfl, hb⟩, rfl⟩
  rotate_left
  · refine And.intro ⟨⟨by omega, by omega⟩, ⟨by omega, by omega⟩⟩ (And.intro (fun c1 => absurd c1 (by omega)) (fun _ => ?_))
    exact And.intro (bad (fun z => hb z.2.2)) trivial
  refine And.intro ⟨⟨by omega, by omega⟩, ⟨by omega, by omega⟩⟩ (And.intro (fun _ => ?_) (fun c2 => absurd c2 (by omega)))
  have b2 := R.n24
  obtain ⟨d, rfl, d_1, d_2⟩ := hd.nat
  have Ad := R.at d_1 d_2
  obtain ⟨a, rfl, a_1, a_2⟩ := ha.nat
  have Aa := R.at a_1 a_2
  obtain ⟨b, rfl, b_1, b_2⟩ := hb.nat
  have Ab := R.at b_1 b_2
  have e : addF n q d a b = (if 64 < nd (q.2.2.2 a + q.2.2.2 b) then (-8, q) else cmR n 0 q d (q.2.2.2 a + q.2.2.2 b)) := if_pos ⟨Lv.of d_1 d_2, Lv.of a_1 a_2, Lv.of b_1 b_2⟩
  refine And.intro rfl ⟨(a, b, 24, q.2.2.2 a, q.2.2.2 b), ⟨rfl, by omega, by omega, by omega, by omega, by omega, Aa.2.2.2.1, by omega, Ab.2.2.2.1, by omega⟩, ?_⟩
  rintro M1 ⟨hM1, hF1⟩
  have R1 := R.fm hF1 (by omega)
  have hl := hM1.1
  refine And.intro rfl (And.intro ⟨rfl, by omega, by omega⟩ ?_)
  conv => whnf
  rw [show ((24 : Int)).toNat = 24 from rfl, hl]
  have hnd : nd (q.2.2.2 a + q.2.2.2 b) ≤ 65 := nd_le.mpr (cyA_top (n := 64) (by omega) (by omega)).2
  refine And.intro ⟨⟨by omega, by omega⟩, ⟨by omega, by omega⟩⟩ (And.intro (fun c1 => ?_) (fun c2 => ?_))
  · refine And.intro rfl ⟨(n, 0, q.1, q.2.1, 24, d, q.2.2.2 a + q.2.2.2 b), ⟨rfl, R1.1, by omega, d_1, (R1.at d_1 d_2).1, by omega, by omega, hM1, by omega⟩, ?_⟩
    rintro x M2 hp
    obtain ⟨c1, c2, c3⟩ := R1.com d_1 d_2 (by omega) hp
    refine Or.inl ?_
    show x = (addF n q d a b).1 ∧ RN n M2 0 (addF n q d a b).2 ∧ FN M0 M2
    rw [e, if_neg (by omega)]
    exact ⟨c1, c2, hF1.N.tr c3⟩
  · refine Or.inl ?_
    show -8 = (addF n q d a b).1 ∧ RN n M1 0 (addF n q d a b).2 ∧ FN M0 M1
    rw [e, if_pos (by omega)]
    exact ⟨rfl, R1, hF1.N⟩
theorem imX8_add {l : Launch} {Z : ZT} (hZ : ZOk Z) : Impl l Z yX8_add cX8_add 4 (some .int) 4 (cN3 addF) := mkImpl (rt := 1) (CL := [(138, some 8, c_isLiveL), (150, some 8, c_sum), (153, some 8, c_comes)]) hZ.1 hZ.2.1 (by decide +kernel) kX8_add fwX8 iwX8 lwX8 trivial (Nat.le_of_ble_eq_true rfl) (List.forall_mem_cons.mpr ⟨gX8_138_L hZ (by decide), List.forall_mem_cons.mpr ⟨gX8_150 hZ (by decide), List.forall_mem_cons.mpr ⟨gX8_153 hZ (by decide), fun q h => absurd h List.not_mem_nil⟩⟩⟩) ((v_add _))
