/-! ===== the reference: take, whole ===== -/
theorem AgM.slid {n : Nn} {M M' : Mem} {pl rm : Nat → Int} {tk : Nat} {s y : Int} (h : AgM n M pl rm tk) (hS : SlI n (up2 M 50 11 s) M' (plM n M) (rmM n M) (n.2.1 : Int) y) : AgM n M' (slP pl rm (n.1 + 5)) rm tk ∧ FrT M M' ∧ M' 50 11 = s := by
  have h0 := h
  obtain ⟨hR, hd, ha⟩ := h
  have hR0 := hR
  obtain ⟨b1, b2, b3, b4, b5, b6, b7, b8, b9, b10⟩ := hR
  obtain ⟨s1, s2, s3, s4, s5, s6⟩ := hS
  have f : ∀ o, o ≠ 50 → o ≠ 55 → o ≠ 56 → M' o = M o := fun o a b c => by rw [s1 o b c, up2_i a]
  have f50 : ∀ j, j ≠ 11 → M' 50 j = M 50 j := fun j hj => by rw [s1 50 (by decide) (by decide), up2_k hj]
  have hr : ∀ t, rmM n M' t = rmM n M t := rmM_same (f50 10 (by decide)) (f 53 (by decide) (by decide) (by decide)) (f 54 (by decide) (by decide) (by decide)) (f 57 (by decide) (by decide) (by decide))
  have hpl : ∀ t, t < n.1 + 5 → 0 < rm t → plM n M' t = slP pl rm (n.1 + 5) t ∧ plM n M' t ≤ pl t := by
    intro t ht hr0
    have e := ha t ht
    have hi := h0.in ht hr0
    have q := s3 t ht (by rw [e.1]; exact hr0) (by rw [e.2 hr0]; omega)
    rw [e.2 hr0, sumB_cong (pl t) ha] at q
    exact ⟨q.1, q.2.1⟩
  refine ⟨⟨⟨b1, b2, b3, b4, by rw [f50 0 (by decide)]; exact b5, by rw [f50 1 (by decide)]; exact b6, by rw [f50 10 (by decide)]; exact b7, b8, fun h hh => by rw [f 53 (by decide) (by decide) (by decide)]; exact b9 h hh, fun t ht hl => ?_⟩, slP_dj hd, fun t ht => ?_⟩, ⟨fun o a b c d => f o a b c, fun j a b => f50 j b⟩, by rw [s1 50 (by decide) (by decide), up2_s]⟩
  · rw [f 53 (by decide) (by decide) (by decide)] at hl
    have q := b10 t ht hl
    have ht5 : t < n.1 + 5 := by omega
    have e := ha t ht5
    have hr0 : 0 < rm t := by rw [← e.1]; omega
    have q2 := hpl t ht5 hr0
    rw [hr, q2.1]
    have q3 : 0 ≤ slP pl rm (n.1 + 5) t := sumB_nn
    rw [e.2 hr0] at q
    refine ⟨q.1, q3, ?_⟩
    rw [q2.1] at q2
    omega
  · rw [hr]
    exact ⟨(ha t ht).1, fun hr0 => (hpl t ht hr0).1⟩
theorem AgM.drop {n : Nn} {M : Mem} {pl rm : Nat → Int} {tk : Nat} (h : AgM n M pl rm tk) : AgM n (up2 M 50 10 0) pl (fun t => if t < n.1 then rm t else 0) 0 := by
  have h0 := h
  obtain ⟨hR, hd, ha⟩ := h
  obtain ⟨b1, b2, b3, b4, b5, b6, b7, b8, b9, b10⟩ := hR
  have f50 : ∀ j, j ≠ 10 → up2 M 50 10 0 50 j = M 50 j := fun j hj => up2_k hj
  have f : ∀ o, o ≠ 50 → up2 M 50 10 0 o = M o := fun o a => up2_i a
  have hr : ∀ t, rmM n (up2 M 50 10 0) t = if t < n.1 then rmM n M t else 0 := by
    intro t
    unfold rmM
    rw [f 53 (by decide), f 54 (by decide), f 57 (by decide), up2_s]
    by_cases h1 : t < n.1
    · rw [if_pos h1, if_pos h1, if_pos h1]
    · rw [if_neg h1, if_neg h1, if_neg (by omega)]
  have hp : ∀ t, plM n (up2 M 50 10 0) t = plM n M t := by
    intro t
    unfold plM
    rw [f 55 (by decide), f 56 (by decide)]
  refine ⟨⟨b1, b2, b3, b4, by rw [f50 0 (by decide)]; exact b5, by rw [f50 1 (by decide)]; exact b6, up2_s, by omega, fun h hh => by rw [f 53 (by decide)]; exact b9 h hh, fun t ht hl => ?_⟩, ?_, fun t ht => ?_⟩
  · rw [f 53 (by decide)] at hl
    rw [hr, hp, if_pos (by omega)]
    exact b10 t (by omega) hl
  · intro t u ht hu hne h1 h2
    dsimp only at *
    by_cases ht1 : t < n.1
    · by_cases hu1 : u < n.1
      · rw [if_pos ht1] at h1 ⊢
        rw [if_pos hu1] at h2 ⊢
        exact hd t u ht hu hne h1 h2
      · rw [if_neg hu1] at h2; omega
    · rw [if_neg ht1] at h1; omega
  · dsimp only
    rw [hr, hp]
    by_cases h1 : t < n.1
    · rw [if_pos h1, if_pos h1]
      exact ha t ht
    · rw [if_neg h1, if_neg h1]
      exact ⟨rfl, fun q => by omega⟩
/-- take(k) -/
def c_take : Call := ⟨Nn × Nat × (Nat → Int) × (Nat → Int) × Int, 2, (fun (n, tk, pl, rm, k) vs M => vs = [.inr (.inr 50), .inl k] ∧ AgM n M pl rm tk ∧ tk ≤ 4 ∧ -100000 ≤ k ∧ k ≤ 100000), .inr (fun (n, tk, pl, rm, k) _ M x M' => x = (tkF n.1 n.2.1 tk pl rm k).1 ∧ AgM n M' (tkF n.1 n.2.1 tk pl rm k).2.1 (tkF n.1 n.2.1 tk pl rm k).2.2.1 (tkF n.1 n.2.1 tk pl rm k).2.2.2.1 ∧ M' 50 11 = M 50 11 + (tkF n.1 n.2.1 tk pl rm k).2.2.2.2 ∧ FrT M M')⟩
set_option maxHeartbeats 4000000 in
theorem v_take (n0 : Nn) : Ver tX8_take (fdX8, icX8, lcX8, [(120, some 8, c_end), (124, some 8, c_slide)]) 2 2 n0 c_take := by
  rintro ⟨n, tk, pl, rm, k⟩ vs M0 ⟨rfl, hA, htk, hk1, hk2⟩ aw run
  have l56 : lnF n0 56 = 8 := rfl
  have l57 : lnF n0 57 = 8 := rfl
  have hC := hA.1.2.2.2.1
  have hmx : ∀ (M : Mem) (pl rm : Nat → Int), AgM n M pl rm tk → 0 ≤ mxE pl rm (n.1 + 5) ∧ mxE pl rm (n.1 + 5) ≤ 800 := fun M pl rm h => ⟨mxE_nn _ _ _, mxE_le (by omega) (fun t ht hr => by have := h.in ht hr; omega)⟩
  change aw 0 [some (.inr (.inr 50)), some (.inl k)] [] M0
  -- from the second look on
  have second : ∀ (M : Mem) (pl1 : Nat → Int) (s : Int), AgM n M pl1 rm tk → M 50 11 = M0 50 11 + s → FrT M0 M → 0 < k → (if mxE pl1 rm (n.1 + 5) + k ≤ (n.2.1 : Int) then tkF n.1 n.2.1 tk pl rm k = (1, va_up pl1 (n.1 + tk) (mxE pl1 rm (n.1 + 5)), va_up rm (n.1 + tk) k, tk + 1, s) else tkF n.1 n.2.1 tk pl rm k = (0, pl1, (fun t => if t < n.1 then rm t else 0), 0, s)) → aw 23 [some (.inr (.inr 50)), some (.inl k)] [] M := by
    intro M pl1 s hM hs hF hk htf
    have hm := hmx M pl1 rm hM
    have hM1 := hM.1.2.2.2.2.2.1
    have hM10 := hM.1.2.2.2.2.2.2.1
    refine run 60 [] _ _ _ _ ?_
    refine And.intro rfl ⟨(n, tk), ⟨rfl, hM.1⟩, ?_⟩
    rintro x M1 ⟨rfl, rfl⟩
    rw [hM.E]
    refine And.intro rfl (And.intro ⟨⟨by omega, by omega⟩, ⟨by omega, by omega⟩⟩ (And.intro (fun hle => ?_) (fun hgt => ?_)))
    · rw [if_pos (by omega)] at htf
      refine And.intro rfl (And.intro rfl (And.intro rfl ?_))
      refine ⟨(n, tk), ⟨rfl, hM.1⟩, ?_⟩
      rintro x M2 ⟨rfl, rfl⟩
      rw [hM.E]
      have e10 : (M2 50 10).toNat = tk := by rw [hM10]; rfl
      have e11 : up2 M2 56 tk (mxE pl1 rm (n.1 + 5)) 50 10 = (tk : Int) := by rw [up2_i (by decide)]; exact hM10
      have e12 : up2 (up2 M2 56 tk (mxE pl1 rm (n.1 + 5))) 57 tk k 50 10 = (tk : Int) := by rw [up2_i (by decide)]; exact e11
      refine And.intro ⟨rfl, by omega, by omega⟩ ?_
      rw [e10]
      refine And.intro rfl (And.intro rfl ?_)
      conv => whnf
      rw [e11, Int.toNat_natCast]
      refine And.intro ⟨rfl, by omega, by omega⟩ (And.intro rfl (And.intro rfl ?_))
      conv => whnf
      rw [e12]
      refine And.intro (Or.inr rfl) (Or.inl ?_)
      show 1 = (tkF n.1 n.2.1 tk pl rm k).1 ∧ AgM n (up2 (up2 (up2 M2 56 tk (mxE pl1 rm (n.1 + 5))) 57 tk k) 50 10 (tk + 1 : Nat)) _ _ _ ∧ _ ∧ _
      rw [htf]
      refine ⟨rfl, hM.add htk rfl (by omega) (by omega), ?_, hF.tr ⟨fun o a b c d => by rw [up2_i a, up2_i d, up2_i c], fun j a _ => by rw [up2_k a, up2_i (by decide), up2_i (by decide)]⟩⟩
      rw [up2_k (by decide), up2_i (by decide), up2_i (by decide)]
      exact hs
    · rw [if_neg (by omega)] at htf
      refine And.intro rfl (And.intro (Or.inl rfl) (Or.inl ?_))
      show 0 = (tkF n.1 n.2.1 tk pl rm k).1 ∧ AgM n (up2 M1 50 10 0) _ _ _ ∧ _ ∧ _
      rw [htf]
      refine ⟨rfl, hM.drop, ?_, hF.tr ⟨fun o a _ _ _ => up2_i a, fun j a _ => up2_k a⟩⟩
      rw [up2_k (by decide)]
      exact hs
  have hm := hmx M0 pl rm hA
  have hM1 := hA.1.2.2.2.2.2.1
  refine run 60 [23] _ _ _ _ ?_
  refine And.intro ⟨⟨by omega, by omega⟩, ⟨by omega, by omega⟩⟩ (And.intro (fun hk => ?_) (fun hk => ?_))
  · refine And.intro rfl ⟨(n, tk), ⟨rfl, hA.1⟩, ?_⟩
    rintro x M1 ⟨rfl, rfl⟩
    rw [hA.E]
    refine And.intro rfl (And.intro ⟨⟨by omega, by omega⟩, ⟨by omega, by omega⟩⟩ (And.intro (fun hle => And.intro ?_ trivial) (fun hgt => ?_)))
    · refine second M1 pl 0 hA (by omega) (FrT.rf _) hk ?_
      rw [if_pos (by omega)]
      unfold tkF
      rw [if_neg (by omega), if_pos (by omega)]
    · refine And.intro rfl ⟨(n, tk), ⟨rfl, hA.1, hA.2.2.dj hA.2.1⟩, ?_⟩
      rintro M2 hS
      obtain ⟨q1, q2, q3⟩ := hA.slid hS
      refine And.intro (second M2 _ 1 q1 q3 q2 hk ?_) trivial
      unfold tkF
      rw [if_neg (show ¬ k ≤ 0 by omega), if_neg (show ¬ mxE pl rm (n.1 + 5) + k ≤ (n.2.1 : Int) by omega)]
      split <;> rfl
  · refine And.intro (Or.inr rfl) (Or.inl ?_)
    show 1 = (tkF n.1 n.2.1 tk pl rm k).1 ∧ AgM n M0 _ _ _ ∧ _ ∧ _
    have : tkF n.1 n.2.1 tk pl rm k = (1, pl, rm, tk, 0) := by
      unfold tkF
      rw [if_pos hk]
    rw [this]
    exact ⟨rfl, hA, (Int.add_zero _).symm, FrT.rf _⟩
theorem imX8_take {l : Launch} {Z : ZT} (hZ : ZOk Z) : Impl l Z yX8_take cX8_take 2 (some .boolean) 2 c_take := mkImpl (rt := 2) (CL := [(120, some 8, c_end), (124, some 8, c_slide)]) hZ.1 hZ.2.1 (by decide +kernel) kX8_take fwX8 iwX8 lwX8 trivial (Nat.le_of_ble_eq_true rfl) (List.forall_mem_cons.mpr ⟨gX8_120 hZ (by decide), List.forall_mem_cons.mpr ⟨gX8_124 hZ (by decide), fun q h => absurd h List.not_mem_nil⟩⟩) ((v_take _))
theorem gX8_131 {l : Launch} {Z : ZT} (hZ : ZOk Z) {d : Nat} (hd : 3 ≤ d) : CallI l Z RX8 d (131, some 8, c_take) := fun p e s m args below meth c Q cc nL x0 X => callOk_V X (imX8_take hZ) (by decide) rfl mlX8_131 iw_yX8_take vw_yX8_take nw_RX8 cw_yX8_take ⟨by decide +kernel, by decide +kernel, by decide +kernel⟩ ⟨hd, by decide⟩
