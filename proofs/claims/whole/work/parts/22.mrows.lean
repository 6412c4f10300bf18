/-! ===== the reference: copies, small numbers, comparison ===== -/
/-- row d of the reference has changed, and nothing else -/
def FrM (M M' : Mem) (d : Nat) : Prop := (∀ o, o ≠ 51 → o ≠ 52 → M' o = M o) ∧ (∀ s, s ≠ d → M' 52 s = M 52 s) ∧ ∀ j, (j < 420 * d ∨ 420 * d + 420 ≤ j) → M' 51 j = M 51 j
theorem FrM.rf (M : Mem) (d : Nat) : FrM M M d := ⟨fun _ _ _ => rfl, fun _ _ => rfl, fun _ _ => rfl⟩
theorem FrM.tr {M M1 M2 : Mem} {d : Nat} (h : FrM M M1 d) (h2 : FrM M1 M2 d) : FrM M M2 d := ⟨fun o a b => (h2.1 o a b).trans (h.1 o a b), fun s a => (h2.2.1 s a).trans (h.2.1 s a), fun j a => (h2.2.2 j a).trans (h.2.2 j a)⟩
theorem FrM.put {M : Mem} {d i : Nat} {x : Int} (h : i < 420) : FrM M (up2 M 51 (420 * d + i) x) d := by
  refine ⟨fun o a _ => up2_i a, fun s _ => ?_, fun j a => ?_⟩
  · rw [up2_i (by decide)]
  · exact up2_k (by omega)
theorem FrM.len {M : Mem} {d : Nat} {x : Int} : FrM M (up2 M 52 d x) d := by
  refine ⟨fun o _ a => up2_i a, fun s h => up2_k h, fun j _ => ?_⟩
  rw [up2_i (by decide)]
/-- the other rows stay -/
theorem FrM.keep {M M' : Mem} {d s v : Nat} (h : FrM M M' d) (hs : s ≠ d) (hv : MH M s v) (hn : nd v ≤ 420) : MH M' s v := by
  refine ⟨(h.2.1 s hs).trans hv.1, fun i hi => ?_⟩
  show M' 51 (420 * s + i) = _
  rw [h.2.2 _ (by omega)]
  exact hv.2 i hi
theorem FrM.o {M M' : Mem} {d o : Nat} (h : FrM M M' d) (h1 : o ≠ 51) (h2 : o ≠ 52) : M' o = M o := h.1 o h1 h2
/-- copy(a, b) -/
def c_copy : Call := ⟨Nat × Nat × Nat, 3, (fun (a, b, v) vs M => vs = [.inr (.inr 50), .inl (a : Int), .inl (b : Int)] ∧ a < 37 ∧ b < 37 ∧ MH M a v ∧ nd v ≤ 420), .inl (fun (_, b, v) _ M M' => MH M' b v ∧ FrM M M' b)⟩
theorem v_copy (n : Nn) : Ver tX8_copy (fdX8, icX8, lcX8, [(76, some 8, c_at), (80, some 8, c_put)]) 0 4 n c_copy := by
  rintro ⟨a, b, v⟩ vs M0 ⟨rfl, ha, hb, hv, hn⟩ aw run
  have hl : lnF n 52 = 37 := rfl
  have loop : ∀ (k i : Nat) (M : Mem), i + k = nd v → MH M a v → FrM M0 M b → (∀ j, j < i → M 51 (420 * b + j) = (dg v j : Int)) → aw 2 [some (.inr (.inr 50)), some (.inl (a : Int)), some (.inl (b : Int)), some (.inl (i : Int))] [] M := by
    intro k
    induction k with
    | zero =>
      intro i M hi hM hF hd
      have h1 := hM.1
      refine run 40 [2] _ _ _ _ ?_
      repeat' first | intro h | refine And.intro ?_ ?_
      all_goals try simp only [Int.toNat_natCast] at *
      all_goals first | omega | rfl | trivial | skip
      refine Or.inl (And.intro (And.intro ?_ ?_) (hF.tr FrM.len))
      · show up2 M 52 b (M 52 a) 52 b = _
        rw [up2_s, h1]
      · intro j hj
        show up2 M 52 b (M 52 a) 51 (420 * b + j) = _
        rw [up2_i (by decide)]
        exact hd j (by omega)
    | succ k ih =>
      intro i M hi hM hF hd
      have h1 := hM.1
      refine run 40 [2] _ _ _ _ ?_
      repeat' first | intro h | refine And.intro ?_ ?_
      all_goals try simp only [Int.toNat_natCast] at *
      all_goals first | omega | rfl | trivial | skip
      refine ⟨(a, (i : Int), v), ⟨rfl, ha, ⟨by omega, by omega⟩, hM, hn⟩, ?_⟩
      rintro x M' ⟨rfl, rfl⟩
      rw [dgZ_n]
      refine ⟨rfl, (b, i, (dg v i : Int)), ⟨rfl, by omega⟩, ?_⟩
      rintro M2 rfl
      refine And.intro ?_ trivial
      have e : ((i : Int) + 1) = ((i + 1 : Nat) : Int) := by omega
      rw [e]
      refine ih (i + 1) _ (by omega) ?_ (hF.tr (FrM.put (by omega))) ?_
      · by_cases hab : a = b
        · subst hab
          refine ⟨hM.1, fun j hj => ?_⟩
          show up2 M' 51 (420 * a + i) (dg v i : Int) 51 (420 * a + j) = _
          by_cases hj2 : j = i
          · rw [hj2, up2_s]
          · rw [up2_k (by omega)]
            exact hM.2 j hj
        · exact (FrM.put (by omega)).keep hab hM hn
      · intro j hj
        by_cases hj2 : j = i
        · rw [hj2, up2_s]
        · rw [up2_k (by omega)]
          exact hd j (by omega)
  change aw 0 [some (.inr (.inr 50)), some (.inl (a : Int)), some (.inl (b : Int)), none] [] M0
  refine run 2 [2] _ _ _ _ ?_
  exact ⟨loop (nd v) 0 M0 (by omega) hv (FrM.rf _ _) (fun j hj => by omega), trivial⟩
theorem imX8_copy {l : Launch} {Z : ZT} (hZ : ZOk Z) : Impl l Z yX8_copy cX8_copy 4 none 2 c_copy := mkImpl (rt := 0) (CL := [(76, some 8, c_at), (80, some 8, c_put)]) hZ.1 hZ.2.1 (by decide +kernel) kX8_copy fwX8 iwX8 lwX8 trivial (Nat.le_of_ble_eq_true rfl) (List.forall_mem_cons.mpr ⟨gX8_76 hZ (by decide), List.forall_mem_cons.mpr ⟨gX8_80 hZ (by decide), fun q h => absurd h List.not_mem_nil⟩⟩) ((v_copy _))
theorem gX8_101 {l : Launch} {Z : ZT} (hZ : ZOk Z) {d : Nat} (hd : 3 ≤ d) : CallI l Z RX8 d (101, some 8, c_copy) := fun p e s m args below meth c Q cc nL x0 X => callOk_V X (imX8_copy hZ) (by decide) rfl mlX8_101 iw_yX8_copy vw_yX8_copy nw_RX8 cw_yX8_copy ⟨by decide +kernel, by decide +kernel, by decide +kernel⟩ ⟨hd, by decide⟩
theorem dv_s (v k : Nat) : v / 32768 ^ k = v / 32768 ^ (k + 1) * 32768 + dg v k := by
  unfold dg
  rw [nn_succ, ← Nat.div_div_eq_div_mul]
  have := Nat.div_add_mod (v / 32768 ^ k) 32768
  omega
theorem dv_lt {a b k : Nat} (h : a / 32768 ^ k < b / 32768 ^ k) : a < b := by
  by_cases hb : a < b
  · exact hb
  · have := Nat.div_le_div_right (c := 32768 ^ k) (show b ≤ a by omega)
    omega
theorem nd_ltv {a b : Nat} (h : nd a < nd b) : a < b := Nat.lt_of_lt_of_le (nd_lt a) (nd_gt.mp h)
theorem dv_nd (v : Nat) : v / 32768 ^ nd v = 0 := Nat.div_eq_of_lt (nd_lt v)
/-- the order of two numbers, as the programs tell it -/
def cm3 (a b : Nat) : Int := if a < b then -1 else if a = b then 0 else 1
theorem cm3_lt {a b : Nat} (h : a < b) : cm3 a b = -1 := by unfold cm3; rw [if_pos h]
theorem cm3_eq (a : Nat) : cm3 a a = 0 := by unfold cm3; rw [if_neg (by omega), if_pos rfl]
theorem cm3_gt {a b : Nat} (h : b < a) : cm3 a b = 1 := by unfold cm3; rw [if_neg (by omega), if_neg (by omega)]
/-- compared(a, b) -/
def c_compared : Call := ⟨Nat × Nat × Nat × Nat, 3, (fun (a, b, v, w) vs M => vs = [.inr (.inr 50), .inl (a : Int), .inl (b : Int)] ∧ a < 37 ∧ b < 37 ∧ MH M a v ∧ nd v ≤ 420 ∧ MH M b w ∧ nd w ≤ 420), .inr (fun (_, _, v, w) _ M x M' => x = cm3 v w ∧ M' = M)⟩
theorem v_compared (n : Nn) : Ver tX8_compared (fdX8, icX8, lcX8, [(76, some 8, c_at)]) 1 4 n c_compared := by
  rintro ⟨a, b, v, w⟩ vs M0 ⟨rfl, ha, hb, hv, hn, hw, hm⟩ aw run
  have hl : lnF n 52 = 37 := rfl
  have h1 := hv.1
  have h2 := hw.1
  have loop : ∀ k : Nat, k ≤ 420 → v / 32768 ^ k = w / 32768 ^ k → aw 45 [some (.inr (.inr 50)), some (.inl (a : Int)), some (.inl (b : Int)), some (.inl ((k : Int) - 1))] [] M0 := by
    intro k
    induction k with
    | zero =>
      intro _ he
      have he : v = w := by simpa using he
      refine run 40 [45] _ _ _ _ ?_
      repeat' first | intro h | refine And.intro ?_ ?_
      all_goals first | omega | rfl | trivial | skip
      refine Or.inl (And.intro ?_ rfl)
      show 0 = cm3 v w
      rw [he, cm3_eq]
    | succ k ih =>
      intro hk he
      have ek : (((k + 1 : Nat) : Int) - 1) = (k : Int) := by omega
      rw [ek]
      have d1 := dv_s v k
      have d2 := dv_s w k
      refine run 40 [45] _ _ _ _ ?_
      repeat' first | intro h | refine And.intro ?_ ?_
      all_goals first | omega | rfl | trivial | skip
      refine ⟨(a, (k : Int), v), ⟨rfl, ha, ⟨by omega, by omega⟩, hv, hn⟩, ?_⟩
      rintro x M' ⟨rfl, rfl⟩
      rw [dgZ_n]
      refine ⟨rfl, (b, (k : Int), w), ⟨rfl, hb, ⟨by omega, by omega⟩, hw, hm⟩, ?_⟩
      rintro y M2 ⟨rfl, rfl⟩
      rw [dgZ_n]
      have q1 := dg_lt v k
      have q2 := dg_lt w k
      repeat' first | intro h | refine And.intro ?_ ?_
      all_goals first | omega | rfl | trivial | skip
      · refine ⟨(a, (k : Int), v), ⟨rfl, ha, ⟨by omega, by omega⟩, hv, hn⟩, ?_⟩
        rintro x M3 ⟨rfl, rfl⟩
        rw [dgZ_n]
        refine ⟨rfl, (b, (k : Int), w), ⟨rfl, hb, ⟨by omega, by omega⟩, hw, hm⟩, ?_⟩
        rintro y M4 ⟨rfl, rfl⟩
        rw [dgZ_n]
        repeat' first | intro h | refine And.intro ?_ ?_
        all_goals first | omega | rfl | trivial | skip
        · refine Or.inl (And.intro ?_ rfl)
          exact (cm3_gt (dv_lt (k := k) (by omega))).symm
        · refine Or.inl (And.intro ?_ rfl)
          exact (cm3_lt (dv_lt (k := k) (by omega))).symm
      · exact ih (by omega) (by omega)
  change aw 0 [some (.inr (.inr 50)), some (.inl (a : Int)), some (.inl (b : Int)), none] [] M0
  refine run 40 [45] _ _ _ _ ?_
  repeat' first | intro h | refine And.intro ?_ ?_
  all_goals try simp only [Int.toNat_natCast] at *
  all_goals first | omega | rfl | trivial | skip
  · rw [h1]
    refine loop (nd v) (by omega) ?_
    rw [dv_nd, show nd v = nd w by omega, dv_nd]
  · refine Or.inl (And.intro ?_ rfl)
    exact (cm3_gt (nd_ltv (by omega))).symm
  · refine Or.inl (And.intro ?_ rfl)
    exact (cm3_lt (nd_ltv (by omega))).symm
theorem imX8_compared {l : Launch} {Z : ZT} (hZ : ZOk Z) : Impl l Z yX8_compared cX8_compared 4 (some .int) 2 c_compared := mkImpl (rt := 1) (CL := [(76, some 8, c_at)]) hZ.1 hZ.2.1 (by decide +kernel) kX8_compared fwX8 iwX8 lwX8 trivial (Nat.le_of_ble_eq_true rfl) (List.forall_mem_cons.mpr ⟨gX8_76 hZ (by decide), fun q h => absurd h List.not_mem_nil⟩) ((v_compared _))
theorem gX8_91 {l : Launch} {Z : ZT} (hZ : ZOk Z) {d : Nat} (hd : 3 ≤ d) : CallI l Z RX8 d (91, some 8, c_compared) := fun p e s m args below meth c Q cc nL x0 X => callOk_V X (imX8_compared hZ) (by decide) rfl mlX8_91 iw_yX8_compared vw_yX8_compared nw_RX8 cw_yX8_compared ⟨by decide +kernel, by decide +kernel, by decide +kernel⟩ ⟨hd, by decide⟩
/-- isOne(s) -/
def c_isOne : Call := ⟨Nat × Nat, 2, (fun (s, v) vs M => vs = [.inr (.inr 50), .inl (s : Int)] ∧ s < 37 ∧ MH M s v ∧ nd v ≤ 420), .inr (fun (_, v) _ M x M' => x = (if v = 1 then 1 else 0) ∧ M' = M)⟩
theorem one_dg {v : Nat} (h : nd v = 1) : v = dg v 0 := by
  have := md_nd (v := v) (n := 1) (by omega)
  unfold dg
  simp at this ⊢
  omega
theorem nd_1 : nd 1 = 1 := by decide
theorem v_isOne (n : Nn) : Ver tX8_isOne (fdX8, icX8, lcX8, [(76, some 8, c_at)]) 2 2 n c_isOne := by
  rintro ⟨s, v⟩ vs M0 ⟨rfl, hs, hv, hn⟩ aw run
  have hl : lnF n 52 = 37 := rfl
  have h1 := hv.1
  change aw 0 [some (.inr (.inr 50)), some (.inl (s : Int))] [] M0
  refine run 40 [] _ _ _ _ ?_
  repeat' first | intro h | refine And.intro ?_ ?_
  all_goals try simp only [Int.toNat_natCast] at *
  all_goals first | omega | rfl | trivial | skip
  · refine Or.inl (And.intro ?_ rfl)
    show 0 = if v = 1 then 1 else 0
    rw [if_neg]
    intro e
    rw [e, nd_1] at h1
    omega
  · refine ⟨(s, 0, v), ⟨rfl, hs, ⟨by omega, by omega⟩, hv, hn⟩, ?_⟩
    rintro x M' ⟨rfl, rfl⟩
    have e0 : dgZ v 0 = (dg v 0 : Int) := dgZ_n v 0
    rw [e0]
    have e1 := one_dg (v := v) (by omega)
    have q1 := dg_lt v 0
    repeat' first | intro h | refine And.intro ?_ ?_
    all_goals first | omega | rfl | trivial | skip
    all_goals refine Or.inl (And.intro ?_ rfl)
    · show 0 = if v = 1 then 1 else 0
      rw [if_neg (by omega)]
    · show 1 = if v = 1 then 1 else 0
      rw [if_pos (by omega)]
theorem imX8_isOne {l : Launch} {Z : ZT} (hZ : ZOk Z) : Impl l Z yX8_isOne cX8_isOne 2 (some .boolean) 2 c_isOne := mkImpl (rt := 2) (CL := [(76, some 8, c_at)]) hZ.1 hZ.2.1 (by decide +kernel) kX8_isOne fwX8 iwX8 lwX8 trivial (Nat.le_of_ble_eq_true rfl) (List.forall_mem_cons.mpr ⟨gX8_76 hZ (by decide), fun q h => absurd h List.not_mem_nil⟩) ((v_isOne _))
theorem gX8_165 {l : Launch} {Z : ZT} (hZ : ZOk Z) {d : Nat} (hd : 3 ≤ d) : CallI l Z RX8 d (165, some 8, c_isOne) := fun p e s m args below meth c Q cc nL x0 X => callOk_V X (imX8_isOne hZ) (by decide) rfl mlX8_165 iw_yX8_isOne vw_yX8_isOne nw_RX8 cw_yX8_isOne ⟨by decide +kernel, by decide +kernel, by decide +kernel⟩ ⟨hd, by decide⟩
/-- small(s, v) -/
def c_small : Call := ⟨Nat × Nat, 3, (fun (s, v) vs _ => vs = [.inr (.inr 50), .inl (s : Int), .inl (v : Int)] ∧ s < 37 ∧ v < 1073741824), .inl (fun (s, v) _ M M' => MH M' s v ∧ FrM M M' s)⟩
theorem MH_fix {M : Mem} {s v k : Nat} (h : ∀ i, i < k → M 51 (420 * s + i) = (dg v i : Int)) (hv : v < 32768 ^ k) : MH (up2 M 52 s (nd v : Int)) s v := by
  refine ⟨up2_s, fun i hi => ?_⟩
  show up2 M 52 s (nd v : Int) 51 (420 * s + i) = _
  rw [up2_i (by decide)]
  exact h i (Nat.lt_of_lt_of_le hi (nd_le.mpr hv))
theorem v_small (n : Nn) : Ver tX8_small (fdX8, icX8, lcX8, [(80, some 8, c_put), (85, some 8, c_fix)]) 0 3 n c_small := by
  rintro ⟨s, v⟩ vs M0 ⟨rfl, hs, hv⟩ aw run
  have e0 : (v : Int) % 32768 = (dg v 0 : Int) := by unfold dg; simp
  have e1 : (v : Int) / 32768 = (dg v 1 : Int) := by unfold dg; simp; omega
  change aw 0 [some (.inr (.inr 50)), some (.inl (s : Int)), some (.inl (v : Int))] [] M0
  refine run 40 [] _ _ _ _ ?_
  repeat' first | intro h | refine And.intro ?_ ?_
  all_goals first | omega | rfl | trivial | skip
  rw [e0]
  refine ⟨(s, 0, (dg v 0 : Int)), ⟨rfl, by omega⟩, ?_⟩
  rintro M1 rfl
  refine And.intro ⟨by omega, by omega, ⟨by omega, by omega⟩, ⟨by omega, by omega⟩⟩ (And.intro rfl ?_)
  rw [e1]
  refine ⟨(s, 1, (dg v 1 : Int)), ⟨rfl, by omega⟩, ?_⟩
  rintro M2 rfl
  have hd : ∀ i, i < 2 → up2 (up2 M0 51 (420 * s + 0) (dg v 0 : Int)) 51 (420 * s + 1) (dg v 1 : Int) 51 (420 * s + i) = (dg v i : Int) := by
    intro i hi
    rcases (show i = 0 ∨ i = 1 by omega) with rfl | rfl
    · rw [up2_k (by omega), up2_s]
    · rw [up2_s]
  refine And.intro rfl ⟨(s, 2, v), ⟨rfl, hs, by omega, by omega, hd⟩, ?_⟩
  rintro M3 rfl
  exact Or.inl (And.intro (MH_fix hd (by omega)) (((FrM.put (by omega)).tr (FrM.put (by omega))).tr FrM.len))
theorem imX8_small {l : Launch} {Z : ZT} (hZ : ZOk Z) : Impl l Z yX8_small cX8_small 3 none 2 c_small := mkImpl (rt := 0) (CL := [(80, some 8, c_put), (85, some 8, c_fix)]) hZ.1 hZ.2.1 (by decide +kernel) kX8_small fwX8 iwX8 lwX8 trivial (Nat.le_of_ble_eq_true rfl) (List.forall_mem_cons.mpr ⟨gX8_80 hZ (by decide), List.forall_mem_cons.mpr ⟨gX8_85 hZ (by decide), fun q h => absurd h List.not_mem_nil⟩⟩) ((v_small _))
theorem gX8_94 {l : Launch} {Z : ZT} (hZ : ZOk Z) {d : Nat} (hd : 3 ≤ d) : CallI l Z RX8 d (94, some 8, c_small) := fun p e s m args below meth c Q cc nL x0 X => callOk_V X (imX8_small hZ) (by decide) rfl mlX8_94 iw_yX8_small vw_yX8_small nw_RX8 cw_yX8_small ⟨by decide +kernel, by decide +kernel, by decide +kernel⟩ ⟨hd, by decide⟩
