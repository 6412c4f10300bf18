/-! ===== the reference: allRooms, about, cell ===== -/
def smR (rm : Nat → Int) (k : Nat) : Int := match k with
  | 0 => 0
  | k + 1 => smR rm k + rm k
def ctR (rm : Nat → Int) (k : Nat) : Int := match k with
  | 0 => 0
  | k + 1 => ctR rm k + (if 0 < rm k then 1 else 0)
def c_allRooms : Call := ⟨Nn × RS, 1, (fun (n, q) vs M => vs = [.inr (.inr 50)] ∧ RN n M 0 q), .inr (fun (n, q) _ M x M' => x = smR q.2.1 n.1 ∧ M' = M)⟩
theorem v_allRooms (n0 : Nn) : Ver tX8_allRooms (fdX8, icX8, lcX8, []) 1 3 n0 c_allRooms := by
  rintro ⟨n, q⟩ vs M0 ⟨rfl, R⟩ aw run
  have l53 : lnF n0 53 = 24 := rfl
  have l54 : lnF n0 54 = 24 := rfl
  have b2 := R.n24
  have b5 := R.1.1.2.2.2.2.1
  have loop : ∀ (r k : Nat), k + r = n.1 → aw 4 [some (.inr (.inr 50)), some (.inl (smR q.2.1 k)), some (.inl (k : Int))] [] M0 := by
    intro r
    induction r with
    | zero =>
      intro k hk
      obtain rfl : k = n.1 := by omega
      refine run 60 [4] _ _ _ _ ?_
      refine And.intro rfl ?_
      refine And.intro ⟨⟨by omega, by omega⟩, ⟨by omega, by omega⟩⟩ (And.intro (fun _ => ?_) (fun c2 => absurd c2 (by omega)))
      exact Or.inl (And.intro rfl rfl)
    | succ r ih =>
      intro k hk
      refine run 60 [4] _ _ _ _ ?_
      refine And.intro rfl ?_
      refine And.intro ⟨⟨by omega, by omega⟩, ⟨by omega, by omega⟩⟩ (And.intro (fun c1 => absurd c1 (by omega)) (fun _ => ?_))
      refine And.intro rfl (And.intro ⟨rfl, by omega, by omega⟩ ?_)
      conv => whnf
      rw [Int.toNat_natCast]
      by_cases hl : 0 < q.2.1 k
      · have A := R.at (by omega) hl
        have A1 := A.1
        refine And.intro ⟨⟨by omega, by omega⟩, ⟨by omega, by omega⟩⟩ (And.intro (fun c1 => absurd c1 (by omega)) (fun _ => ?_))
        refine And.intro rfl (And.intro ⟨rfl, by omega, by omega⟩ ?_)
        refine And.intro ?_ trivial
        rw [Int.toNat_natCast, A.2.1]
        exact ih (k + 1) (by omega)
      · have A := R.dead (h := k) (by omega) hl
        have A1 := A.1
        refine And.intro ⟨⟨by omega, by omega⟩, ⟨by omega, by omega⟩⟩ (And.intro (fun _ => ?_) (fun c2 => absurd c2 (by omega)))
        refine And.intro ?_ trivial
        have := ih (k + 1) (by omega)
        rw [smR, A.2] at this
        exact this
  change aw 0 [some (.inr (.inr 50)), none, none] [] M0
  refine run 60 [4] _ _ _ _ ?_
  exact And.intro (loop n.1 0 (by omega)) trivial
theorem imX8_allRooms {l : Launch} {Z : ZT} (hZ : ZOk Z) : Impl l Z yX8_allRooms cX8_allRooms 3 (some .int) 1 c_allRooms := mkImpl (rt := 1) (CL := []) hZ.1 hZ.2.1 (by decide +kernel) kX8_allRooms fwX8 iwX8 lwX8 trivial (Nat.le_of_ble_eq_true rfl) (fun q h => absurd h List.not_mem_nil) ((v_allRooms _))
theorem gX8_141 {l : Launch} {Z : ZT} (hZ : ZOk Z) {d : Nat} (hd : 2 ≤ d) : CallI l Z RX8 d (141, some 8, c_allRooms) := fun p e s m args below meth c Q cc nL x0 X => callOk_V X (imX8_allRooms hZ) (by decide) rfl mlX8_141 iw_yX8_allRooms vw_yX8_allRooms nw_RX8 cw_yX8_allRooms ⟨by decide +kernel, by decide +kernel, by decide +kernel⟩ ⟨hd, by decide⟩
def abtF (n : Nn) (q : RS) (c t : Nat) (a : Int) : Int := if a = 0 then smR q.2.1 n.1 else if a = 1 then mxE q.1 q.2.1 (n.1 + 5) else if a = 2 then q.2.2.1 else if a = 3 then ctR q.2.1 n.1 else if a = 4 then (c : Int) else if a = 5 then (n.1 : Int) else if a = 6 then (n.2.1 : Int) else if a = 7 then (n.2.2 : Int) else if a = 8 then (t : Int) else -1
def c_about : Call := ⟨Nn × RS × Nat × Nat × Int, 2, (fun (n, q, c, t, a) vs M => vs = [.inr (.inr 50), .inl a] ∧ inR a ∧ RN n M 0 q ∧ M 50 18 = (c : Int) ∧ M 50 14 = (t : Int) ∧ M 50 2 = (n.2.2 : Int)), .inr (fun (n, q, c, t, a) _ M x M' => x = abtF n q c t a ∧ M' = M)⟩
theorem v_about (n0 : Nn) : Ver tX8_about (fdX8, icX8, lcX8, [(141, some 8, c_allRooms), (120, some 8, c_end)]) 1 4 n0 c_about := by
  rintro ⟨n, q, c, t, a⟩ vs M0 ⟨rfl, ia, R, h18, h14, h2⟩ aw run
  have l53 : lnF n0 53 = 24 := rfl
  have b2 := R.n24
  have b5 := R.1.1.2.2.2.2.1
  have b6 := R.1.1.2.2.2.2.2.1
  unfold inR at ia
  have loop : ∀ (r k : Nat), k + r = n.1 → aw 4 [some (.inr (.inr 50)), some (.inl a), some (.inl (ctR q.2.1 k)), some (.inl (k : Int))] [] M0 := by
    intro r
    induction r with
    | zero =>
      intro k hk
      obtain rfl : k = n.1 := by omega
      refine run 60 [4] _ _ _ _ ?_
      refine And.intro rfl ?_
      refine And.intro ⟨⟨by omega, by omega⟩, ⟨by omega, by omega⟩⟩ (And.intro (fun _ => ?_) (fun c2 => absurd c2 (by omega)))
      refine And.intro ⟨by omega, by omega⟩ (And.intro (fun cd => ?_) (And.intro (fun c0 => ?_) (And.intro (fun c1 => ?_) (And.intro (fun c2 => ?_) (And.intro (fun c3 => ?_) (And.intro (fun c4 => ?_) (And.intro (fun c5 => ?_) (And.intro (fun c6 => ?_) (And.intro (fun c7 => ?_) (And.intro (fun c8 => ?_) trivial))))))))))
      · refine Or.inl (And.intro ?_ rfl)
        show -1 = abtF n q c t a
        unfold abtF
        rw [if_neg (by omega), if_neg (by omega), if_neg (by omega), if_neg (by omega), if_neg (by omega), if_neg (by omega), if_neg (by omega), if_neg (by omega), if_neg (by omega)]
      · refine And.intro rfl ⟨(n, q), ⟨rfl, R⟩, ?_⟩
        rintro x M0 ⟨rfl, rfl⟩
        refine Or.inl (And.intro ?_ rfl)
        show _ = abtF n q c t a
        unfold abtF
        rw [if_pos (by omega)]
      · refine And.intro rfl ⟨(n, 0), ⟨rfl, R.1.1⟩, ?_⟩
        rintro x M0 ⟨rfl, rfl⟩
        refine Or.inl (And.intro ?_ rfl)
        show _ = abtF n q c t a
        unfold abtF
        rw [if_neg (by omega), if_pos (by omega)]
        exact R.1.E
      · refine And.intro rfl ?_
        refine Or.inl (And.intro ?_ rfl)
        show _ = abtF n q c t a
        unfold abtF
        rw [if_neg (by omega), if_neg (by omega), if_pos (by omega)]
        exact R.2.1
      · refine Or.inl (And.intro ?_ rfl)
        show _ = abtF n q c t a
        unfold abtF
        rw [if_neg (by omega), if_neg (by omega), if_neg (by omega), if_pos (by omega)]
      · refine And.intro rfl ?_
        refine Or.inl (And.intro ?_ rfl)
        show _ = abtF n q c t a
        unfold abtF
        rw [if_neg (by omega), if_neg (by omega), if_neg (by omega), if_neg (by omega), if_pos (by omega)]
        exact h18
      · refine And.intro rfl ?_
        refine Or.inl (And.intro ?_ rfl)
        show _ = abtF n q c t a
        unfold abtF
        rw [if_neg (by omega), if_neg (by omega), if_neg (by omega), if_neg (by omega), if_neg (by omega), if_pos (by omega)]
        exact b5
      · refine And.intro rfl ?_
        refine Or.inl (And.intro ?_ rfl)
        show _ = abtF n q c t a
        unfold abtF
        rw [if_neg (by omega), if_neg (by omega), if_neg (by omega), if_neg (by omega), if_neg (by omega), if_neg (by omega), if_pos (by omega)]
        exact b6
      · refine And.intro rfl ?_
        refine Or.inl (And.intro ?_ rfl)
        show _ = abtF n q c t a
        unfold abtF
        rw [if_neg (by omega), if_neg (by omega), if_neg (by omega), if_neg (by omega), if_neg (by omega), if_neg (by omega), if_neg (by omega), if_pos (by omega)]
        exact h2
      · refine And.intro rfl ?_
        refine Or.inl (And.intro ?_ rfl)
        show _ = abtF n q c t a
        unfold abtF
        rw [if_neg (by omega), if_neg (by omega), if_neg (by omega), if_neg (by omega), if_neg (by omega), if_neg (by omega), if_neg (by omega), if_neg (by omega), if_pos (by omega)]
        exact h14
    | succ r ih =>
      intro k hk
      refine run 60 [4] _ _ _ _ ?_
      refine And.intro rfl ?_
      refine And.intro ⟨⟨by omega, by omega⟩, ⟨by omega, by omega⟩⟩ (And.intro (fun c1 => absurd c1 (by omega)) (fun _ => ?_))
      refine And.intro rfl (And.intro ⟨rfl, by omega, by omega⟩ ?_)
      conv => whnf
      rw [Int.toNat_natCast]
      by_cases hl : 0 < q.2.1 k
      · have A := R.at (by omega) hl
        have A1 := A.1
        refine And.intro ⟨⟨by omega, by omega⟩, ⟨by omega, by omega⟩⟩ (And.intro (fun c1 => absurd c1 (by omega)) (fun _ => ?_))
        refine And.intro ?_ trivial
        have := ih (k + 1) (by omega)
        rw [ctR, if_pos hl] at this
        exact this
      · have A := R.dead (h := k) (by omega) hl
        have A1 := A.1
        refine And.intro ⟨⟨by omega, by omega⟩, ⟨by omega, by omega⟩⟩ (And.intro (fun _ => ?_) (fun c2 => absurd c2 (by omega)))
        refine And.intro ?_ trivial
        have := ih (k + 1) (by omega)
        rw [ctR, if_neg hl] at this
        exact this
  change aw 0 [some (.inr (.inr 50)), some (.inl a), none, none] [] M0
  refine run 60 [4] _ _ _ _ ?_
  exact And.intro (loop n.1 0 (by omega)) trivial
theorem imX8_about {l : Launch} {Z : ZT} (hZ : ZOk Z) : Impl l Z yX8_about cX8_about 4 (some .int) 2 c_about := mkImpl (rt := 1) (CL := [(141, some 8, c_allRooms), (120, some 8, c_end)]) hZ.1 hZ.2.1 (by decide +kernel) kX8_about fwX8 iwX8 lwX8 trivial (Nat.le_of_ble_eq_true rfl) (List.forall_mem_cons.mpr ⟨gX8_141 hZ (by decide), List.forall_mem_cons.mpr ⟨gX8_120 hZ (by decide), fun q h => absurd h List.not_mem_nil⟩⟩) ((v_about _))
def clS (q : RS) (i : Int) (r h : Nat) : Int := match r with
  | 0 => -1
  | r + 1 => if 0 < q.2.1 h ∧ q.1 h ≤ i ∧ i < q.1 h + q.2.1 h then dgZ (q.2.2.2 h) (i - q.1 h) else clS q i r (h + 1)
def celF (n : Nn) (q : RS) (i : Int) : Int := clS q i n.1 0
theorem v_cell (n0 : Nn) : Ver tX8_cell (fdX8, icX8, lcX8, [(127, none, c_isIn), (76, some 8, c_at)]) 1 3 n0 (cR1 celF) := by
  rintro ⟨n, q, i⟩ vs M0 ⟨rfl, ii, R⟩ aw run
  have l53 : lnF n0 53 = 24 := rfl
  have l54 : lnF n0 54 = 24 := rfl
  have l55 : lnF n0 55 = 24 := rfl
  have b2 := R.n24
  have b5 := R.1.1.2.2.2.2.1
  have b4 := R.1.1.2.2.2.1
  have loop : ∀ (r h : Nat), h + r = n.1 → clS q i r h = celF n q i → aw 2 [some (.inr (.inr 50)), some (.inl i), some (.inl (h : Int))] [] M0 := by
    intro r
    induction r with
    | zero =>
      intro h hh hc
      refine run 60 [2] _ _ _ _ ?_
      refine And.intro rfl ?_
      refine And.intro ⟨⟨by omega, by omega⟩, ⟨by omega, by omega⟩⟩ (And.intro (fun _ => ?_) (fun c2 => absurd c2 (by omega)))
      exact Or.inl (And.intro hc rfl)
    | succ r ih =>
      intro h hh hc
      rw [clS] at hc
      refine run 60 [2] _ _ _ _ ?_
      refine And.intro rfl ?_
      refine And.intro ⟨⟨by omega, by omega⟩, ⟨by omega, by omega⟩⟩ (And.intro (fun c1 => absurd c1 (by omega)) (fun _ => ?_))
      refine And.intro rfl (And.intro ⟨rfl, by omega, by omega⟩ ?_)
      conv => whnf
      rw [Int.toNat_natCast]
      by_cases hl : 0 < q.2.1 h
      · have h_1 : h < n.1 := by omega
        have A := R.at h_1 hl
        have hin := R.1.in (t := h) (by omega) hl
        obtain ⟨a1, a2, a3, a4, a5, a6, a7, a8⟩ := A
        refine And.intro ⟨⟨by omega, by omega⟩, ⟨by omega, by omega⟩⟩ (And.intro (fun c1 => absurd c1 (by omega)) (fun _ => ?_))
        refine And.intro rfl (And.intro ⟨rfl, by omega, by omega⟩ ?_)
        refine And.intro rfl (And.intro ⟨rfl, by omega, by omega⟩ ?_)
        refine And.intro rfl (And.intro ⟨rfl, by omega, by omega⟩ ?_)
        conv => whnf
        rw [Int.toNat_natCast, a2, a3]
        have ii0 := ii
        unfold inR at ii0
        refine ⟨(i, q.1 h, q.1 h + q.2.1 h - 1), ⟨rfl, ii, ⟨by omega, by omega⟩, ⟨by omega, by omega⟩⟩, ?_⟩
        rintro x M0 ⟨rfl, rfl⟩
        by_cases c : q.1 h ≤ i ∧ i ≤ q.1 h + q.2.1 h - 1
        · rw [if_pos c]
          rw [if_pos ⟨hl, c.1, by omega⟩] at hc
          refine And.intro ⟨⟨by omega, by omega⟩, ⟨by omega, by omega⟩⟩ (And.intro (fun c1 => absurd c1 (by omega)) (fun _ => ?_))
          refine And.intro rfl (And.intro ⟨rfl, by omega, by omega⟩ ?_)
          conv => whnf
          rw [Int.toNat_natCast, a3]
          refine And.intro rfl ⟨(h, i - q.1 h, q.2.2.2 h), ⟨rfl, by omega, ⟨by omega, by omega⟩, a4, by omega⟩, ?_⟩
          rintro x M0 ⟨rfl, rfl⟩
          exact Or.inl (And.intro hc rfl)
        · rw [if_neg c]
          rw [if_neg (fun z => c ⟨z.2.1, by omega⟩)] at hc
          refine And.intro ⟨⟨by omega, by omega⟩, ⟨by omega, by omega⟩⟩ (And.intro (fun _ => ?_) (fun c2 => absurd c2 (by omega)))
          refine And.intro ?_ trivial
          exact ih (h + 1) (by omega) hc
      · have A := R.dead (h := h) (by omega) hl
        have A1 := A.1
        rw [if_neg (fun z => hl z.1)] at hc
        refine And.intro ⟨⟨by omega, by omega⟩, ⟨by omega, by omega⟩⟩ (And.intro (fun _ => ?_) (fun c2 => absurd c2 (by omega)))
        refine And.intro ?_ trivial
        exact ih (h + 1) (by omega) hc
  change aw 0 [some (.inr (.inr 50)), some (.inl i), none] [] M0
  refine run 60 [2] _ _ _ _ ?_
  exact And.intro (loop n.1 0 (by omega) rfl) trivial
theorem imX8_cell {l : Launch} {Z : ZT} (hZ : ZOk Z) : Impl l Z yX8_cell cX8_cell 3 (some .int) 2 (cR1 celF) := mkImpl (rt := 1) (CL := [(127, none, c_isIn), (76, some 8, c_at)]) hZ.1 hZ.2.1 (by decide +kernel) kX8_cell fwX8 iwX8 lwX8 trivial (Nat.le_of_ble_eq_true rfl) (List.forall_mem_cons.mpr ⟨gX8_127 hZ (by decide), List.forall_mem_cons.mpr ⟨gX8_76 hZ (by decide), fun q h => absurd h List.not_mem_nil⟩⟩) ((v_cell _))
