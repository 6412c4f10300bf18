/-! ===== runs: places and rooms by number, the handles' first, then what is taken ===== -/
/-- the end of the highest run among the first k (0 without any) -/
def mxE (pl rm : Nat → Int) (k : Nat) : Int := match k with
  | 0 => 0
  | k + 1 => if 0 < rm k ∧ mxE pl rm k < pl k + rm k then pl k + rm k else mxE pl rm k
theorem mxE_nn (pl rm : Nat → Int) (k : Nat) : 0 ≤ mxE pl rm k := by
  induction k with
  | zero => exact Int.le_refl 0
  | succ k ih => unfold mxE; split <;> omega
theorem mxE_le {pl rm : Nat → Int} {k : Nat} {c : Int} (h0 : 0 ≤ c) (h : ∀ t, t < k → 0 < rm t → pl t + rm t ≤ c) : mxE pl rm k ≤ c := by
  induction k with
  | zero => exact h0
  | succ k ih =>
    unfold mxE
    split
    · exact h k (by omega) (by omega)
    · exact ih (fun t ht => h t (by omega))
theorem mxE_ge {pl rm : Nat → Int} {k t : Nat} (ht : t < k) (h : 0 < rm t) : pl t + rm t ≤ mxE pl rm k := by
  induction k with
  | zero => omega
  | succ k ih =>
    unfold mxE
    by_cases e : t = k
    · subst e
      split <;> omega
    · have := ih (by omega)
      split <;> omega
theorem mxE_cong {pl rm pl2 rm2 : Nat → Int} {k : Nat} (h : ∀ t, t < k → rm2 t = rm t ∧ (0 < rm t → pl2 t = pl t)) : mxE pl2 rm2 k = mxE pl rm k := by
  induction k with
  | zero => rfl
  | succ k ih =>
    unfold mxE
    rw [ih (fun t ht => h t (by omega)), (h k (by omega)).1]
    by_cases hr : 0 < rm k
    · rw [(h k (by omega)).2 hr]
    · rw [if_neg (by omega), if_neg (by omega)]
theorem mxE_more {pl rm : Nat → Int} {k : Nat} (j : Nat) (h : ∀ t, k ≤ t → t < k + j → rm t = 0) : mxE pl rm (k + j) = mxE pl rm k := by
  induction j with
  | zero => rfl
  | succ j ih =>
    rw [← Nat.add_assoc, mxE, ih (fun t h1 h2 => h t h1 (by omega)), if_neg (by have := h (k + j) (by omega) (by omega); omega)]
/-- the reference's runs -/
def rmM (n : Nn) (M : Mem) (t : Nat) : Int := if t < n.1 then (if M 53 t = 1 then M 54 t else 0) else if ((t - n.1 : Nat) : Int) < M 50 10 then M 57 (t - n.1) else 0
def plM (n : Nn) (M : Mem) (t : Nat) : Int := if t < n.1 then M 55 t else M 56 (t - n.1)
/-- what holds of the reference's runs at any time: tk are taken -/
def RunM (n : Nn) (M : Mem) (tk : Nat) : Prop := 1 ≤ n.1 ∧ n.1 ≤ 24 ∧ 16 ≤ n.2.1 ∧ n.2.1 ≤ 800 ∧ M 50 0 = (n.1 : Int) ∧ M 50 1 = (n.2.1 : Int) ∧ M 50 10 = (tk : Int) ∧ tk ≤ 5 ∧ (∀ h, h < n.1 → M 53 h = 0 ∨ M 53 h = 1) ∧ ∀ t, t < n.1 + tk → (t < n.1 → M 53 t = 1) → 1 ≤ rmM n M t ∧ 0 ≤ plM n M t ∧ plM n M t + rmM n M t ≤ (n.2.1 : Int)
theorem RunM.free {n : Nn} {M : Mem} {tk t : Nat} (h : RunM n M tk) (h1 : t < n.1) (h2 : M 53 t ≠ 1) : rmM n M t = 0 := by
  unfold rmM
  rw [if_pos h1, if_neg h2]
theorem RunM.none {n : Nn} {M : Mem} {tk t : Nat} (h : RunM n M tk) (h1 : n.1 + tk ≤ t) : rmM n M t = 0 := by
  unfold rmM
  have := h.2.2.2.2.2.2.1
  rw [if_neg (by omega), if_neg (by omega)]
/-- end() -/
def c_end : Call := ⟨Nn × Nat, 1, (fun (n, tk) vs M => vs = [.inr (.inr 50)] ∧ RunM n M tk), .inr (fun (n, _) _ M x M' => x = mxE (plM n M) (rmM n M) (n.1 + 5) ∧ M' = M)⟩
theorem v_end (n0 : Nn) : Ver tX8_end (fdX8, icX8, lcX8, []) 1 3 n0 c_end := by
  rintro ⟨n, tk⟩ vs M0 ⟨rfl, hR⟩ aw run
  have hR0 := hR
  obtain ⟨b1, b2, b3, b4, b5, b6, b7, b8, b9, b10⟩ := hR
  have l53 : lnF n0 53 = 24 := rfl
  have l54 : lnF n0 54 = 24 := rfl
  have l55 : lnF n0 55 = 24 := rfl
  have l56 : lnF n0 56 = 8 := rfl
  have l57 : lnF n0 57 = 8 := rfl
  have hub : ∀ k, k ≤ n.1 + tk → mxE (plM n M0) (rmM n M0) k ≤ 800 := fun k hk => mxE_le (by omega) (fun t ht h0 => by
    by_cases hlive : t < n.1 ∧ M0 53 t ≠ 1
    · rw [hR0.free hlive.1 hlive.2] at h0; omega
    · have := b10 t (by omega) (fun q => by
        rcases b9 t q with e | e
        · exact absurd ⟨q, by omega⟩ hlive
        · exact e)
      omega)
  have second : ∀ (r t : Nat), t + r = tk → aw 64 [some (.inr (.inr 50)), some (.inl (mxE (plM n M0) (rmM n M0) (n.1 + t))), some (.inl (t : Int))] [] M0 := by
    intro r
    induction r with
    | zero =>
      intro t ht
      have h1 := mxE_nn (plM n M0) (rmM n M0) (n.1 + t)
      refine run 60 [64] _ _ _ _ ?_
      repeat' first | intro h | refine And.intro ?_ ?_
      all_goals first | omega | rfl | trivial | skip
      refine Or.inl (And.intro ?_ rfl)
      show mxE (plM n M0) (rmM n M0) (n.1 + t) = mxE (plM n M0) (rmM n M0) (n.1 + 5)
      have q := mxE_more (pl := plM n M0) (rm := rmM n M0) (k := n.1 + t) (5 - t) (fun u h1 h2 => hR0.none (by omega))
      rw [show n.1 + 5 = n.1 + t + (5 - t) by omega]
      exact q.symm
    | succ r ih =>
      intro t ht
      have h1 := mxE_nn (plM n M0) (rmM n M0) (n.1 + t)
      have h2 := hub (n.1 + t) (by omega)
      have h3 := b10 (n.1 + t) (by omega) (fun q => by omega)
      have e1 : rmM n M0 (n.1 + t) = M0 57 t := by
        unfold rmM
        rw [if_neg (by omega), if_pos (by omega), show n.1 + t - n.1 = t by omega]
      have e2 : plM n M0 (n.1 + t) = M0 56 t := by
        unfold plM
        rw [if_neg (by omega), show n.1 + t - n.1 = t by omega]
      have e3 : mxE (plM n M0) (rmM n M0) (n.1 + (t + 1)) = if 0 < rmM n M0 (n.1 + t) ∧ mxE (plM n M0) (rmM n M0) (n.1 + t) < plM n M0 (n.1 + t) + rmM n M0 (n.1 + t) then plM n M0 (n.1 + t) + rmM n M0 (n.1 + t) else mxE (plM n M0) (rmM n M0) (n.1 + t) := rfl
      have ih1 := ih (t + 1) (by omega)
      rw [e3, e1, e2] at ih1
      rw [e1, e2] at h3
      refine run 60 [64] _ _ _ _ ?_
      repeat' first | intro h | refine And.intro ?_ ?_
      all_goals try simp only [Int.toNat_natCast] at *
      all_goals first | omega | rfl | trivial | skip
      · rw [if_neg (by omega)] at ih1
        exact ih1
      · rw [if_pos (by omega)] at ih1
        exact ih1
  have first : ∀ (r t : Nat), t + r = n.1 → aw 4 [some (.inr (.inr 50)), some (.inl (mxE (plM n M0) (rmM n M0) t)), some (.inl (t : Int))] [] M0 := by
    intro r
    induction r with
    | zero =>
      intro t ht
      obtain rfl : t = n.1 := by omega
      refine run 60 [4, 64] _ _ _ _ ?_
      repeat' first | intro h | refine And.intro ?_ ?_
      all_goals first | omega | rfl | trivial | skip
      exact second tk 0 (by omega)
    | succ r ih =>
      intro t ht
      have h1 := mxE_nn (plM n M0) (rmM n M0) t
      have h2 := hub t (by omega)
      have h4 := b9 t (by omega)
      have e1 : rmM n M0 t = if M0 53 t = 1 then M0 54 t else 0 := by
        unfold rmM
        rw [if_pos (by omega)]
      have e2 : plM n M0 t = M0 55 t := by
        unfold plM
        rw [if_pos (by omega)]
      have e3 : mxE (plM n M0) (rmM n M0) (t + 1) = if 0 < rmM n M0 t ∧ mxE (plM n M0) (rmM n M0) t < plM n M0 t + rmM n M0 t then plM n M0 t + rmM n M0 t else mxE (plM n M0) (rmM n M0) t := rfl
      have ih1 := ih (t + 1) (by omega)
      have h3 := b10 t (by omega)
      rw [e3, e1, e2] at ih1
      rw [e1, e2] at h3
      refine run 60 [4, 64] _ _ _ _ ?_
      repeat' first | intro h | refine And.intro ?_ ?_
      all_goals try simp only [Int.toNat_natCast] at *
      all_goals first | omega | rfl | trivial | skip
      · rw [if_neg (by rw [if_neg (by omega)]; omega)] at ih1
        exact ih1
      · rw [if_pos (show M0 53 t = 1 by omega), if_neg (by omega)] at ih1
        exact ih1
      · have q3 := h3 (fun _ => by omega)
        rw [if_pos (show M0 53 t = 1 by omega)] at ih1 q3
        rw [if_pos (by omega)] at ih1
        exact ih1
  change aw 0 [some (.inr (.inr 50)), none, none] [] M0
  refine run 10 [4] _ _ _ _ ?_
  exact ⟨first n.1 0 (by omega), trivial⟩
theorem imX8_end {l : Launch} {Z : ZT} (hZ : ZOk Z) : Impl l Z yX8_end cX8_end 3 (some .int) 1 c_end := mkImpl (rt := 1) (CL := []) hZ.1 hZ.2.1 (by decide +kernel) kX8_end fwX8 iwX8 lwX8 trivial (Nat.le_of_ble_eq_true rfl) (fun q h => absurd h List.not_mem_nil) ((v_end _))
theorem gX8_120 {l : Launch} {Z : ZT} (hZ : ZOk Z) {d : Nat} (hd : 2 ≤ d) : CallI l Z RX8 d (120, some 8, c_end) := fun p e s m args below meth c Q cc nL x0 X => callOk_V X (imX8_end hZ) (by decide) rfl mlX8_120 iw_yX8_end vw_yX8_end nw_RX8 cw_yX8_end ⟨by decide +kernel, by decide +kernel, by decide +kernel⟩ ⟨hd, by decide⟩
/-- isLive(h) -/
def c_isLive : Call := ⟨Nn × Nat × Int, 2, (fun (n, tk, h) vs M => vs = [.inr (.inr 50), .inl h] ∧ inR h ∧ RunM n M tk), .inr (fun (n, _, h) _ M x M' => x = (if 0 ≤ h ∧ h < (n.1 : Int) ∧ M 53 h.toNat = 1 then 1 else 0) ∧ M' = M)⟩
theorem v_isLive (n0 : Nn) : Ver tX8_isLive (fdX8, icX8, lcX8, [(127, none, c_isIn)]) 2 2 n0 c_isLive := by
  rintro ⟨n, tk, h⟩ vs M0 ⟨rfl, hh, hR⟩ aw run
  have hR0 := hR
  obtain ⟨b1, b2, b3, b4, b5, b6, b7, b8, b9, b10⟩ := hR
  unfold inR at hh
  have l53 : lnF n0 53 = 24 := rfl
  change aw 0 [some (.inr (.inr 50)), some (.inl h)] [] M0
  refine run 60 [] _ _ _ _ ?_
  refine And.intro rfl ⟨(h, 0, M0 50 0 - 1), ⟨rfl, ⟨by omega, by omega⟩, ⟨by omega, by omega⟩, ⟨by omega, by omega⟩⟩, ?_⟩
  rintro x M1 ⟨rfl, rfl⟩
  by_cases hin : 0 ≤ h ∧ h ≤ M1 50 0 - 1
  · rw [if_pos hin]
    have h9 := b9 h.toNat (by omega)
    repeat' first | intro h | refine And.intro ?_ ?_
    all_goals first | omega | rfl | trivial | skip
    · refine Or.inl (And.intro ?_ rfl)
      exact (if_neg (by omega)).symm
    · refine Or.inl (And.intro ?_ rfl)
      exact (if_pos (by omega)).symm
  · rw [if_neg hin]
    repeat' first | intro h | refine And.intro ?_ ?_
    all_goals first | omega | rfl | trivial | skip
    refine Or.inl (And.intro ?_ rfl)
    exact (if_neg (by omega)).symm
theorem imX8_isLive {l : Launch} {Z : ZT} (hZ : ZOk Z) : Impl l Z yX8_isLive cX8_isLive 2 (some .boolean) 2 c_isLive := mkImpl (rt := 2) (CL := [(127, none, c_isIn)]) hZ.1 hZ.2.1 (by decide +kernel) kX8_isLive fwX8 iwX8 lwX8 trivial (Nat.le_of_ble_eq_true rfl) (List.forall_mem_cons.mpr ⟨gX8_127 hZ (by decide), fun q h => absurd h List.not_mem_nil⟩) ((v_isLive _))
theorem gX8_138 {l : Launch} {Z : ZT} (hZ : ZOk Z) {d : Nat} (hd : 3 ≤ d) : CallI l Z RX8 d (138, some 8, c_isLive) := fun p e s m args below meth c Q cc nL x0 X => callOk_V X (imX8_isLive hZ) (by decide) rfl mlX8_138 iw_yX8_isLive vw_yX8_isLive nw_RX8 cw_yX8_isLive ⟨by decide +kernel, by decide +kernel, by decide +kernel⟩ ⟨hd, by decide⟩
