/-! ===== the runs and the numbers, as both programs have them ===== -/
/-- places, rooms, how often it slid, the handles' numbers -/
abbrev RS : Type := (Nat → Int) × (Nat → Int) × Int × (Nat → Nat)
abbrev Lv (n : Nn) (q : RS) (h : Int) : Prop := 0 ≤ h ∧ h < (n.1 : Int) ∧ 0 < q.2.1 h.toNat
/-- what holds of the numbers: every live handle's is no longer than its room -/
def NmO (n : Nn) (q : RS) : Prop := ∀ h, h < n.1 → 0 < q.2.1 h → (nd (q.2.2.2 h) : Int) ≤ q.2.1 h ∧ q.2.1 h ≤ 64
/-- the reference has these runs and numbers, tk of the runs taken -/
def RN (n : Nn) (M : Mem) (tk : Nat) (q : RS) : Prop := AgM n M q.1 q.2.1 tk ∧ M 50 11 = q.2.2.1 ∧ NmO n q ∧ ∀ h, h < n.1 → 0 < q.2.1 h → MH M h (q.2.2.2 h)
/-- of the reference only runs and numbers changed -/
def FN (M M' : Mem) : Prop := (∀ o, o < 50 ∨ 57 < o → M' o = M o) ∧ ∀ j, j ≠ 10 → j ≠ 11 → M' 50 j = M 50 j
theorem FN.rf (M : Mem) : FN M M := ⟨fun _ _ => rfl, fun _ _ _ => rfl⟩
theorem FN.tr {M M1 M2 : Mem} (h : FN M M1) (h2 : FN M1 M2) : FN M M2 := ⟨fun o a => (h2.1 o a).trans (h.1 o a), fun j a b => (h2.2 j a b).trans (h.2 j a b)⟩
theorem FrM.N {M M' : Mem} {d : Nat} (h : FrM M M' d) : FN M M' := ⟨fun o a => h.1 o (by omega) (by omega), fun j _ _ => by rw [h.1 50 (by decide) (by decide)]⟩
theorem FrL.N {M M' : Mem} {L : List Nat} (h : FrL M M' L) : FN M M' := ⟨fun o a => h.1 o (by omega) (by omega), fun j _ _ => by rw [h.1 50 (by decide) (by decide)]⟩
theorem FrT.N {M M' : Mem} (h : FrT M M') : FN M M' := ⟨fun o a => h.1 o (by omega) (by omega) (by omega) (by omega), h.2⟩
theorem FrC.N {M M' : Mem} {d : Nat} (h : FrC M M' d) : FN M M' := ⟨fun o a => h.1 o (by omega) (by omega) (by omega) (by omega) (by omega) (by omega) (by omega), h.2.1⟩
theorem FN.up {M : Mem} {o k : Nat} {x : Int} (h : 51 ≤ o ∧ o ≤ 57) : FN M (up2 M o k x) := ⟨fun p a => up2_i (by omega), fun j _ _ => by rw [up2_i (by omega)]⟩
theorem RN.n24 {n : Nn} {M : Mem} {tk : Nat} {q : RS} (h : RN n M tk q) : n.1 ≤ 24 := h.1.1.2.1
/-- a live handle's cells -/
theorem RN.at {n : Nn} {M : Mem} {tk : Nat} {q : RS} {h : Nat} (R : RN n M tk q) (h1 : h < n.1) (h2 : 0 < q.2.1 h) : M 53 h = 1 ∧ M 54 h = q.2.1 h ∧ M 55 h = q.1 h ∧ MH M h (q.2.2.2 h) ∧ nd (q.2.2.2 h) ≤ 64 ∧ (nd (q.2.2.2 h) : Int) ≤ q.2.1 h ∧ q.2.1 h ≤ 64 ∧ M 52 h = (nd (q.2.2.2 h) : Int) := by
  have a := R.1.2.2 h (by omega)
  have e1 : rmM n M h = if M 53 h = 1 then M 54 h else 0 := by unfold rmM; rw [if_pos h1]
  have e2 : plM n M h = M 55 h := by unfold plM; rw [if_pos h1]
  have b := R.2.2.1 h h1 h2
  have c := R.2.2.2 h h1 h2
  by_cases hl : M 53 h = 1
  · rw [if_pos hl] at e1
    exact ⟨hl, by omega, by have := a.2 h2; omega, c, by omega, b.1, b.2, c.1⟩
  · rw [if_neg hl] at e1
    omega
theorem RN.dead {n : Nn} {M : Mem} {tk : Nat} {q : RS} {h : Nat} (R : RN n M tk q) (h1 : h < n.1) (h2 : ¬ 0 < q.2.1 h) : M 53 h = 0 ∧ q.2.1 h = 0 := by
  have a := R.1.2.2 h (by omega)
  have b := R.1.1.2.2.2.2.2.2.2.2.1 h h1
  have c := R.1.1.2.2.2.2.2.2.2.2.2 h (by omega)
  have e1 : rmM n M h = if M 53 h = 1 then M 54 h else 0 := by unfold rmM; rw [if_pos h1]
  by_cases hl : M 53 h = 1
  · have := c (fun _ => hl)
    omega
  · rw [if_neg hl] at e1
    omega
/-- isLive(h), by the runs -/
def c_isLiveL : Call := ⟨Nn × Nat × RS × Int, 2, (fun (n, tk, q, h) vs M => vs = [.inr (.inr 50), .inl h] ∧ inR h ∧ RN n M tk q), .inr (fun (n, _, q, h) _ M x M' => ((x = 1 ∧ Lv n q h) ∨ (x = 0 ∧ ¬ Lv n q h)) ∧ M' = M)⟩
theorem v_isLiveL (n0 : Nn) : Ver tX8_isLive (fdX8, icX8, lcX8, [(127, none, c_isIn)]) 2 2 n0 c_isLiveL := by
  rintro ⟨n, tk, q, h⟩ vs M0 ⟨rfl, hh, R⟩ aw run
  have b5 := R.1.1.2.2.2.2.1
  have b2 := R.n24
  unfold inR at hh
  have l53 : lnF n0 53 = 24 := rfl
  change aw 0 [some (.inr (.inr 50)), some (.inl h)] [] M0
  refine run 60 [] _ _ _ _ ?_
  refine And.intro rfl ⟨(h, 0, M0 50 0 - 1), ⟨rfl, ⟨by omega, by omega⟩, ⟨by omega, by omega⟩, ⟨by omega, by omega⟩⟩, ?_⟩
  rintro x M1 ⟨rfl, rfl⟩
  by_cases hin : 0 ≤ h ∧ h ≤ M1 50 0 - 1
  · rw [if_pos hin]
    by_cases hl : 0 < q.2.1 h.toNat
    · have a := (R.at (h := h.toNat) (by omega) hl).1
      repeat' first | intro h | refine And.intro ?_ ?_
      all_goals first | omega | rfl | trivial | skip
      exact Or.inl (And.intro (Or.inl ⟨rfl, by omega, by omega, hl⟩) rfl)
    · have a := (R.dead (h := h.toNat) (by omega) hl).1
      repeat' first | intro h | refine And.intro ?_ ?_
      all_goals first | omega | rfl | trivial | skip
      exact Or.inl (And.intro (Or.inr ⟨rfl, fun z => hl z.2.2⟩) rfl)
  · rw [if_neg hin]
    repeat' first | intro h | refine And.intro ?_ ?_
    all_goals first | omega | rfl | trivial | skip
    exact Or.inl (And.intro (Or.inr ⟨rfl, fun z => by have := z.1; have := z.2.1; omega⟩) rfl)
theorem imX8_isLive_L {l : Launch} {Z : ZT} (hZ : ZOk Z) : Impl l Z yX8_isLive cX8_isLive 2 (some .boolean) 2 c_isLiveL := mkImpl (rt := 2) (CL := [(127, none, c_isIn)]) hZ.1 hZ.2.1 (by decide +kernel) kX8_isLive fwX8 iwX8 lwX8 trivial (Nat.le_of_ble_eq_true rfl) (List.forall_mem_cons.mpr ⟨gX8_127 hZ (by decide), fun q h => absurd h List.not_mem_nil⟩) ((v_isLiveL _))
theorem gX8_138_L {l : Launch} {Z : ZT} (hZ : ZOk Z) {d : Nat} (hd : 3 ≤ d) : CallI l Z RX8 d (138, some 8, c_isLiveL) := fun p e s m args below meth c Q cc nL x0 X => callOk_V X (imX8_isLive_L hZ) (by decide) rfl mlX8_138 iw_yX8_isLive vw_yX8_isLive nw_RX8 cw_yX8_isLive ⟨by decide +kernel, by decide +kernel, by decide +kernel⟩ ⟨hd, by decide⟩
/-- scratch rows may change -/
theorem RN.fm {n : Nn} {M M' : Mem} {tk d : Nat} {q : RS} (R : RN n M tk q) (h : FrM M M' d) (hd : 24 ≤ d) : RN n M' tk q := by
  have := R.n24
  refine ⟨R.1.mov h.1, by rw [h.1 50 (by decide) (by decide)]; exact R.2.1, R.2.2.1, fun k h1 h2 => ?_⟩
  have a := R.at h1 h2
  exact h.keep (by omega) a.2.2.2.1 (by omega)
theorem RN.fl {n : Nn} {M M' : Mem} {tk : Nat} {L : List Nat} {q : RS} (R : RN n M tk q) (h : FrL M M' L) (hd : ∀ s ∈ L, 24 ≤ s) : RN n M' tk q := by
  have := R.n24
  refine ⟨R.1.mov h.1, by rw [h.1 50 (by decide) (by decide)]; exact R.2.1, R.2.2.1, fun k h1 h2 => ?_⟩
  have a := R.at h1 h2
  exact h.keep (fun c => by have := hd k c; omega) a.2.2.2.1 (by omega)
/-- what the frame leaves of the numbers -/
theorem MH.ft {M M' : Mem} {s v : Nat} (h : MH M s v) (e1 : M' 51 = M 51) (e2 : M' 52 = M 52) : MH M' s v := by
  unfold MH at *
  rw [e1, e2]
  exact h
/-- take: the answer, how many are taken, the runs -/
def tkR (n : Nn) (tk : Nat) (q : RS) (k : Int) : Int × Nat × RS := ((tkF n.1 n.2.1 tk q.1 q.2.1 k).1, (tkF n.1 n.2.1 tk q.1 q.2.1 k).2.2.2.1, ((tkF n.1 n.2.1 tk q.1 q.2.1 k).2.1, (tkF n.1 n.2.1 tk q.1 q.2.1 k).2.2.1, q.2.2.1 + (tkF n.1 n.2.1 tk q.1 q.2.1 k).2.2.2.2, q.2.2.2))
theorem tkF_rm {n1 c tk : Nat} {pl rm : Nat → Int} {k : Int} {t : Nat} (h : t < n1) : (tkF n1 c tk pl rm k).2.2.1 t = rm t := by
  unfold tkF
  split
  · rfl
  · split
    · exact va_up_ne _ _ (by omega)
    · split
      · exact va_up_ne _ _ (by omega)
      · exact if_pos h
theorem tkR_rm {n : Nn} {tk : Nat} {q : RS} {k : Int} {t : Nat} (h : t < n.1) : (tkR n tk q k).2.2.2.1 t = q.2.1 t := tkF_rm h
theorem tkR_vl {n : Nn} {tk : Nat} {q : RS} {k : Int} : (tkR n tk q k).2.2.2.2.2 = q.2.2.2 := rfl
theorem NmO.tk {n : Nn} {q : RS} {tk : Nat} {k : Int} (h : NmO n q) : NmO n (tkR n tk q k).2.2 := by
  intro t h1 h2
  rw [tkR_rm h1] at h2 ⊢
  exact h t h1 h2
theorem tkR_c {n : Nn} {tk : Nat} {q : RS} {k : Int} : ((tkR n tk q k).1 = 1 ∧ (tkR n tk q k).2.1 ≤ tk + 1) ∨ ((tkR n tk q k).1 = 0 ∧ (tkR n tk q k).2.1 = 0) := by
  unfold tkR tkF
  dsimp only
  split
  · exact Or.inl ⟨rfl, Nat.le_succ _⟩
  · split
    · exact Or.inl ⟨rfl, Nat.le_refl _⟩
    · split
      · exact Or.inl ⟨rfl, Nat.le_refl _⟩
      · exact Or.inr ⟨rfl, rfl⟩
theorem RN.tk {n : Nn} {M M' : Mem} {tk : Nat} {q : RS} {k : Int} (R : RN n M tk q) (hA : AgM n M' (tkF n.1 n.2.1 tk q.1 q.2.1 k).2.1 (tkF n.1 n.2.1 tk q.1 q.2.1 k).2.2.1 (tkF n.1 n.2.1 tk q.1 q.2.1 k).2.2.2.1) (hs : M' 50 11 = M 50 11 + (tkF n.1 n.2.1 tk q.1 q.2.1 k).2.2.2.2) (hF : FrT M M') : RN n M' (tkR n tk q k).2.1 (tkR n tk q k).2.2 := by
  refine ⟨hA, by rw [hs, R.2.1]; rfl, R.2.2.1.tk, fun h h1 h2 => ?_⟩
  rw [tkR_rm h1] at h2
  exact (R.at h1 h2).2.2.2.1.ft (hF.1 51 (by decide) (by decide) (by decide) (by decide)) (hF.1 52 (by decide) (by decide) (by decide) (by decide))
/-- a number comes to handle d, tk runs being taken -/
def cmR (n : Nn) (tk : Nat) (q : RS) (d v : Nat) : Int × RS := ((comF n.1 n.2.1 tk d q.1 q.2.1 (nd v)).1, ((comF n.1 n.2.1 tk d q.1 q.2.1 (nd v)).2.1, (comF n.1 n.2.1 tk d q.1 q.2.1 (nd v)).2.2.1, q.2.2.1 + (comF n.1 n.2.1 tk d q.1 q.2.1 (nd v)).2.2.2, if (comF n.1 n.2.1 tk d q.1 q.2.1 (nd v)).1 = -4 then q.2.2.2 else va_up q.2.2.2 d v))
theorem comF_rm {n1 c tk d : Nat} {pl rm : Nat → Int} {k t : Nat} (h : t < n1) : (comF n1 c tk d pl rm k).2.2.1 t = rm t ∨ (t = d ∧ (comF n1 c tk d pl rm k).2.2.1 t = (k : Int) ∧ (comF n1 c tk d pl rm k).1 = (k : Int)) := by
  unfold comF
  split
  · exact Or.inl (if_pos h)
  · split
    · exact Or.inl (tkF_rm h)
    · dsimp only
      rw [if_pos h]
      by_cases e : t = d
      · subst e
        exact Or.inr ⟨rfl, va_up_self _ _ _, rfl⟩
      · rw [va_up_ne _ _ e]
        exact Or.inl (tkF_rm h)
theorem comF_ok {n1 c tk d : Nat} {pl rm : Nat → Int} {k : Nat} (hd : d < n1) : (comF n1 c tk d pl rm k).1 = -4 ∧ (comF n1 c tk d pl rm k).2.2.1 d = rm d ∨ (comF n1 c tk d pl rm k).1 = (k : Int) ∧ (k : Int) ≤ (comF n1 c tk d pl rm k).2.2.1 d := by
  unfold comF
  split
  · refine Or.inr ⟨rfl, ?_⟩
    dsimp only
    rw [if_pos hd]
    assumption
  · split
    · exact Or.inl ⟨rfl, tkF_rm hd⟩
    · refine Or.inr ⟨rfl, ?_⟩
      dsimp only
      rw [if_pos hd, va_up_self]
      exact Int.le_refl _
theorem NmO.cm {n : Nn} {q : RS} {tk d v : Nat} (h : NmO n q) (hd : d < n.1) (hv : nd v ≤ 64) (hl : 0 < q.2.1 d) : NmO n (cmR n tk q d v).2 := by
  intro t h1 h2
  change 0 < (comF n.1 n.2.1 tk d q.1 q.2.1 (nd v)).2.2.1 t at h2
  show (nd ((if (comF n.1 n.2.1 tk d q.1 q.2.1 (nd v)).1 = -4 then q.2.2.2 else va_up q.2.2.2 d v) t) : Int) ≤ (comF n.1 n.2.1 tk d q.1 q.2.1 (nd v)).2.2.1 t ∧ (comF n.1 n.2.1 tk d q.1 q.2.1 (nd v)).2.2.1 t ≤ 64
  have o := comF_ok (n1 := n.1) (c := n.2.1) (tk := tk) (pl := q.1) (rm := q.2.1) (k := nd v) hd
  have r := comF_rm (n1 := n.1) (c := n.2.1) (tk := tk) (d := d) (pl := q.1) (rm := q.2.1) (k := nd v) h1
  by_cases e : t = d
  · subst e
    have hq := h t h1 hl
    rcases o with o | o
    · rw [if_pos o.1]
      omega
    · rw [if_neg (by omega), va_up_self]
      omega
  · have r2 : (comF n.1 n.2.1 tk d q.1 q.2.1 (nd v)).2.2.1 t = q.2.1 t := by
      rcases r with r | r
      · exact r
      · exact absurd r.1 e
    rw [r2] at h2 ⊢
    have hq := h t h1 h2
    split
    · exact hq
    · rw [va_up_ne _ _ e]
      exact hq
theorem RN.cm {n : Nn} {M M' : Mem} {tk d v : Nat} {q : RS} (R : RN n M tk q) (hd : d < n.1) (hl : 0 < q.2.1 d) (hv : nd v ≤ 64) (hA : AgM n M' (comF n.1 n.2.1 tk d q.1 q.2.1 (nd v)).2.1 (comF n.1 n.2.1 tk d q.1 q.2.1 (nd v)).2.2.1 0) (hs : M' 50 11 = M 50 11 + (comF n.1 n.2.1 tk d q.1 q.2.1 (nd v)).2.2.2) (hF : FrC M M' d) (h1 : (comF n.1 n.2.1 tk d q.1 q.2.1 (nd v)).1 = -4 → M' 51 = M 51 ∧ M' 52 = M 52) (h2 : (comF n.1 n.2.1 tk d q.1 q.2.1 (nd v)).1 ≠ -4 → MH M' d v) : RN n M' 0 (cmR n tk q d v).2 := by
  refine ⟨hA, by rw [hs, R.2.1]; rfl, R.2.2.1.cm hd hv hl, fun t a1 a2 => ?_⟩
  change 0 < (comF n.1 n.2.1 tk d q.1 q.2.1 (nd v)).2.2.1 t at a2
  show MH M' t ((if (comF n.1 n.2.1 tk d q.1 q.2.1 (nd v)).1 = -4 then q.2.2.2 else va_up q.2.2.2 d v) t)
  have r := comF_rm (n1 := n.1) (c := n.2.1) (tk := tk) (d := d) (pl := q.1) (rm := q.2.1) (k := nd v) a1
  have n24 := R.n24
  by_cases e : t = d
  · subst e
    by_cases o : (comF n.1 n.2.1 tk t q.1 q.2.1 (nd v)).1 = -4
    · rw [if_pos o]
      exact (R.at a1 hl).2.2.2.1.ft (h1 o).1 (h1 o).2
    · rw [if_neg o, va_up_self]
      exact h2 o
  · have r2 : (comF n.1 n.2.1 tk d q.1 q.2.1 (nd v)).2.2.1 t = q.2.1 t := by
      rcases r with r | r
      · exact r
      · exact absurd r.1 e
    rw [r2] at a2
    have b := R.at a1 a2
    have c : MH M' t (q.2.2.2 t) := by
      refine ⟨(hF.2.2.1 t e).trans b.2.2.2.1.1, fun i hi => ?_⟩
      show M' 51 (420 * t + i) = _
      rw [hF.2.2.2 _ (by omega)]
      exact b.2.2.2.1.2 i hi
    split
    · exact c
    · rw [va_up_ne _ _ e]
      exact c
