/-! ===== the reference: gets, near, digit ===== -/
/-- gets(h, k, w) -/
def c_gets : Call := ⟨Nat × Int × Nat, 4, (fun (h, k, w) vs M => vs = [.inr (.inr 50), .inl (h : Int), .inl k, .inl ((w : Int) - 1)] ∧ h < 24 ∧ w ≤ 8 ∧ inR k ∧ inR (M 54 h) ∧ (M 54 h < k → 1 ≤ w)), .inl (fun (h, k, w) _ M M' => M' = if k ≤ M 54 h then M else up2 (up2 M 55 h (M 56 (w - 1))) 54 h k)⟩
theorem v_gets (n0 : Nn) : Ver tX8_gets (fdX8, icX8, lcX8, []) 0 4 n0 c_gets := by
  rintro ⟨hn, k, w⟩ vs M0 ⟨rfl, hh, hw, hk, hr, hw1⟩ aw run
  unfold inR at hk hr
  have l54 : lnF n0 54 = 24 := rfl
  have l55 : lnF n0 55 = 24 := rfl
  have l56 : lnF n0 56 = 8 := rfl
  change aw 0 [some (.inr (.inr 50)), some (.inl (hn : Int)), some (.inl k), some (.inl ((w : Int) - 1))] [] M0
  refine run 60 [] _ _ _ _ ?_
  repeat' first | intro h | refine And.intro ?_ ?_
  all_goals try simp only [Int.toNat_natCast] at *
  all_goals first | omega | rfl | trivial | skip
  · refine Or.inl ?_
    show up2 (up2 M0 55 hn (M0 56 ((w : Int) - 1).toNat)) 54 hn k = if k ≤ M0 54 hn then M0 else up2 (up2 M0 55 hn (M0 56 (w - 1))) 54 hn k
    rw [if_neg (by omega), show ((w : Int) - 1).toNat = w - 1 by omega]
  · refine Or.inl ?_
    show M0 = if k ≤ M0 54 hn then M0 else up2 (up2 M0 55 hn (M0 56 (w - 1))) 54 hn k
    rw [if_pos (by omega)]
theorem imX8_gets {l : Launch} {Z : ZT} (hZ : ZOk Z) : Impl l Z yX8_gets cX8_gets 4 none 1 c_gets := mkImpl (rt := 0) (CL := []) hZ.1 hZ.2.1 (by decide +kernel) kX8_gets fwX8 iwX8 lwX8 trivial (Nat.le_of_ble_eq_true rfl) (fun q h => absurd h List.not_mem_nil) ((v_gets _))
theorem gX8_135 {l : Launch} {Z : ZT} (hZ : ZOk Z) {d : Nat} (hd : 2 ≤ d) : CallI l Z RX8 d (135, some 8, c_gets) := fun p e s m args below meth c Q cc nL x0 X => callOk_V X (imX8_gets hZ) (by decide) rfl mlX8_135 iw_yX8_gets vw_yX8_gets nw_RX8 cw_yX8_gets ⟨by decide +kernel, by decide +kernel, by decide +kernel⟩ ⟨hd, by decide⟩
/-- near(v, a, b) -/
def c_near : Call := ⟨Int × Int × Int, 3, (fun (v, a, b) vs _ => vs = [.inl v, .inl a, .inl b] ∧ inR v ∧ inR a ∧ inR b), .inr (fun (v, a, b) _ M x M' => x = (if v < a then a else if b < v then b else v) ∧ M' = M)⟩
theorem v_near (n : Nn) : Ver tX8_near (fdX8, icX8, lcX8, []) 1 3 n c_near := by
  rintro ⟨v, a, b⟩ vs M0 ⟨rfl, hv, ha, hb⟩ aw run
  unfold inR at hv ha hb
  change aw 0 [some (.inl v), some (.inl a), some (.inl b)] [] M0
  refine run 20 [] _ _ _ _ ?_
  repeat' first | intro h | refine And.intro ?_ ?_
  all_goals first | omega | skip
  all_goals refine Or.inl (And.intro ?_ rfl)
  · show v = if v < a then a else if b < v then b else v
    rw [if_neg (by omega), if_neg (by omega)]
  · show b = if v < a then a else if b < v then b else v
    rw [if_neg (by omega), if_pos (by omega)]
  · show a = if v < a then a else if b < v then b else v
    rw [if_pos (by omega)]
theorem imX8_near {l : Launch} {Z : ZT} (hZ : ZOk Z) : Impl l Z yX8_near cX8_near 3 (some .int) 1 c_near := mkImpl (rt := 1) (CL := []) hZ.1 hZ.2.1 (by decide +kernel) kX8_near fwX8 iwX8 lwX8 trivial (Nat.le_of_ble_eq_true rfl) (fun q h => absurd h List.not_mem_nil) ((v_near _))
theorem gX8_63 {l : Launch} {Z : ZT} (hZ : ZOk Z) {d : Nat} (hd : 2 ≤ d) : CallI l Z RX8 d (63, none, c_near) := fun p e s m args below meth c Q cc nL x0 X => callOk_S X (imX8_near hZ) mlX8_63 sw_yX8_near nw_RX8 cw_yX8_near ⟨by decide +kernel, by decide +kernel, by decide +kernel⟩ ⟨hd, by decide⟩
/-- the value of a byte as a digit; what is none is above every base -/
def dgC (c : Int) : Int := if 48 ≤ c ∧ c ≤ 57 then c - 48 else if 97 ≤ c ∧ c ≤ 122 then c - 97 + 10 else 99
def c_digit : Call := ⟨Int, 1, (fun c vs _ => vs = [.inl c] ∧ inR c), .inr (fun c _ M x M' => x = dgC c ∧ M' = M)⟩
theorem v_digit (n : Nn) : Ver tX8_digit (fdX8, icX8, lcX8, [(127, none, c_isIn)]) 1 1 n c_digit := by
  rintro (c : Int) vs M0 ⟨rfl, hc⟩ aw run
  have hc0 := hc
  unfold inR at hc
  change aw 0 [some (.inl c)] [] M0
  refine run 40 [] _ _ _ _ ?_
  refine ⟨(c, 48, 57), ⟨rfl, hc0, ⟨by omega, by omega⟩, ⟨by omega, by omega⟩⟩, ?_⟩
  rintro x M1 ⟨rfl, rfl⟩
  by_cases h1 : 48 ≤ c ∧ c ≤ 57
  · rw [if_pos h1]
    repeat' first | intro h | refine And.intro ?_ ?_
    all_goals first | omega | skip
    refine Or.inl (And.intro ?_ rfl)
    show c - 48 = dgC c
    unfold dgC
    rw [if_pos h1]
  · rw [if_neg h1]
    refine And.intro ⟨⟨by omega, by omega⟩, ⟨by omega, by omega⟩⟩ (And.intro (fun _ => ?_) (fun q => absurd rfl q))
    refine ⟨(c, 97, 122), ⟨rfl, hc0, ⟨by omega, by omega⟩, ⟨by omega, by omega⟩⟩, ?_⟩
    rintro x M2 ⟨rfl, rfl⟩
    by_cases h2 : 97 ≤ c ∧ c ≤ 122
    · rw [if_pos h2]
      repeat' first | intro h | refine And.intro ?_ ?_
      all_goals first | omega | skip
      refine Or.inl (And.intro ?_ rfl)
      show c - 97 + 10 = dgC c
      unfold dgC
      rw [if_neg h1, if_pos h2]
    · rw [if_neg h2]
      repeat' first | intro h | refine And.intro ?_ ?_
      all_goals first | omega | skip
      refine Or.inl (And.intro ?_ rfl)
      show 99 = dgC c
      unfold dgC
      rw [if_neg h1, if_neg h2]
theorem imX8_digit {l : Launch} {Z : ZT} (hZ : ZOk Z) : Impl l Z yX8_digit cX8_digit 1 (some .int) 2 c_digit := mkImpl (rt := 1) (CL := [(127, none, c_isIn)]) hZ.1 hZ.2.1 (by decide +kernel) kX8_digit fwX8 iwX8 lwX8 trivial (Nat.le_of_ble_eq_true rfl) (List.forall_mem_cons.mpr ⟨gX8_127 hZ (by decide), fun q h => absurd h List.not_mem_nil⟩) ((v_digit _))
theorem gX8_168 {l : Launch} {Z : ZT} (hZ : ZOk Z) {d : Nat} (hd : 3 ≤ d) : CallI l Z RX8 d (168, none, c_digit) := fun p e s m args below meth c Q cc nL x0 X => callOk_S X (imX8_digit hZ) mlX8_168 sw_yX8_digit nw_RX8 cw_yX8_digit ⟨by decide +kernel, by decide +kernel, by decide +kernel⟩ ⟨hd, by decide⟩
