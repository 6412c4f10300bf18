/-! ===== the class: division, Knuth's guess ===== -/
theorem kn_ge {U W top P head : Nat} (hP : 0 < P) (h1 : top * P ≤ W) (hh : head = U / P) (ht : 0 < top) : U / W ≤ head / top := by
  rw [Nat.le_div_iff_mul_le ht, hh, Nat.le_div_iff_mul_le hP, Nat.mul_assoc]
  exact Nat.le_trans (Nat.mul_le_mul_left _ h1) (Nat.div_mul_le_self U W)
theorem kn_le2 {U W top P head : Nat} (hP : 0 < P) (hW : 0 < W) (h1 : W < (top + 1) * P) (hh : head = U / P) (h2 : 16384 ≤ top) (hU : U < W * 32768) : head / top ≤ U / W + 2 := by
  refine Nat.le_of_lt_succ (Nat.lt_of_not_le (fun c => ?_))
  have hQ : U / W < 32768 := by
    rw [Nat.div_lt_iff_lt_mul hW, Nat.mul_comm]
    exact hU
  have a1 : (U / W + 3) * top ≤ head := (Nat.le_div_iff_mul_le (by omega)).mp c
  rw [hh, Nat.le_div_iff_mul_le hP] at a1
  have a2 : U < (U / W + 1) * W := by
    have := Nat.lt_mul_div_succ U hW
    rw [Nat.mul_comm] at this
    exact this
  have a3 : (U / W + 1) * W ≤ (U / W + 1) * ((top + 1) * P) := Nat.mul_le_mul_left _ (Nat.le_of_lt h1)
  generalize U / W = Q at *
  have a4 : (Q + 3) * top * P < (Q + 1) * (top + 1) * P := by
    rw [Nat.mul_assoc (Q + 1)]
    omega
  have a5 : (Q + 3) * top < (Q + 1) * (top + 1) := Nat.lt_of_mul_lt_mul_right a4
  have e1 : (Q + 3) * top = Q * top + 3 * top := by grind
  have e2 : (Q + 1) * (top + 1) = Q * top + Q + top + 1 := by grind
  rw [e1, e2] at a5
  generalize Q * top = z at *
  omega
theorem kn_no {g U W W2 U3 P : Nat} (hP : 0 < P) (h1 : W2 * P ≤ W) (hu : U3 = U / P) (h : U3 < g * W2) : U < g * W := by
  have a1 := Nat.lt_mul_div_succ U hP
  rw [← hu, Nat.mul_comm] at a1
  have a2 := Nat.mul_le_mul_right P (show U3 + 1 ≤ g * W2 from h)
  have a3 := Nat.mul_le_mul_left g h1
  rw [Nat.mul_assoc] at a2
  omega
theorem kn_ok {g U W W2 U3 P : Nat} (hW : 0 < W) (h1 : W < (W2 + 1) * P) (hu : U3 = U / P) (h : g * W2 ≤ U3) (hg : g ≤ W2 + 1) : g ≤ U / W + 1 := by
  cases g with
  | zero => exact Nat.zero_le _
  | succ g =>
    refine Nat.succ_le_succ ?_
    rw [Nat.le_div_iff_mul_le hW]
    have a1 := Nat.mul_le_mul_left g (Nat.le_of_lt h1)
    have a2 : g * ((W2 + 1) * P) ≤ (g + 1) * W2 * P := by
      rw [← Nat.mul_assoc]
      refine Nat.mul_le_mul_right P ?_
      have e1 : g * (W2 + 1) = g * W2 + g := by grind
      have e2 : (g + 1) * W2 = g * W2 + W2 := by grind
      omega
    have a3 := Nat.mul_le_mul_right P h
    have a4 := Nat.div_mul_le_self U P
    rw [hu] at a3
    omega
theorem dv_bd (v k : Nat) : v / 32768 ^ k * 32768 ^ k ≤ v ∧ v < (v / 32768 ^ k + 1) * 32768 ^ k := by
  have h := Nat.div_add_mod v (32768 ^ k)
  have h2 := Nat.mod_lt v (nn_pos k)
  rw [Nat.add_mul, Nat.one_mul, Nat.mul_comm]
  omega
theorem kn_all {U W : Nat} (m : Nat) (hm : nd W = m + 1) (ht : 16384 ≤ dg W m) (hU : U < W * 32768) (nx bh : Nat) (hnx : (nx : Int) = dgZ W ((m : Int) - 1)) (hbh : bh = if m = 0 then 0 else dg U (m - 1)) :
    U / W ≤ (dg U (m + 1) * 32768 + dg U m) / dg W m ∧ (dg U (m + 1) * 32768 + dg U m) / dg W m ≤ U / W + 2 ∧ U / W < 32768 ∧ (∀ g left, dg U (m + 1) * 32768 + dg U m = g * dg W m + left → left * 32768 + bh < g * nx → U / W < g) ∧ (∀ g left, dg U (m + 1) * 32768 + dg U m = g * dg W m + left → g ≤ 32768 → g * nx ≤ left * 32768 + bh → g ≤ U / W + 1) := by
  have hW : 0 < W := Nat.pos_of_ne_zero (fun z => by rw [z, nd_0] at hm; omega)
  have hWl : W < 32768 ^ (m + 1) := by rw [← hm]; exact nd_lt W
  have hUl : U < 32768 ^ (m + 1 + 1) := by
    rw [nn_succ]
    exact Nat.lt_trans hU (Nat.mul_lt_mul_of_pos_right hWl (by decide))
  have w1 := dv_s W m
  rw [Nat.div_eq_of_lt hWl] at w1
  have u1 := dv_s U m
  have u2 := dv_s U (m + 1)
  rw [Nat.div_eq_of_lt hUl] at u2
  have ew : dg W m = W / 32768 ^ m := by omega
  have eu : dg U (m + 1) * 32768 + dg U m = U / 32768 ^ m := by omega
  have bw := dv_bd W m
  rw [← ew] at bw
  have hQ : U / W < 32768 := by
    rw [Nat.div_lt_iff_lt_mul hW, Nat.mul_comm]
    exact hU
  have c1 := kn_ge (nn_pos m) bw.1 eu (by omega)
  refine ⟨c1, kn_le2 (nn_pos m) hW bw.2 eu ht hU, hQ, ?_⟩
  cases m with
  | zero =>
    have en : nx = 0 := by
      rw [dgZ_neg (by omega)] at hnx
      omega
    have eb : bh = 0 := by rw [hbh, if_pos rfl]
    subst en eb
    refine ⟨fun g left e h => by omega, fun g left e _ _ => ?_⟩
    have e1 : dg W 0 = W := by rw [ew, Nat.pow_zero, Nat.div_one]
    have e2 : dg U (0 + 1) * 32768 + dg U 0 = U := by rw [eu, Nat.pow_zero, Nat.div_one]
    rw [e1, e2] at e
    have : g ≤ U / W := (Nat.le_div_iff_mul_le hW).mpr (by omega)
    omega
  | succ m =>
    have en : nx = dg W m := by
      rw [show ((m + 1 : Nat) : Int) - 1 = (m : Int) by omega, dgZ_n] at hnx
      omega
    have eb : bh = dg U m := by rw [hbh, if_neg (by omega)]; rfl
    have w2 := dv_s W m
    have u3 := dv_s U m
    rw [← ew, ← en] at w2
    rw [← eu, ← eb] at u3
    have b2 := dv_bd W m
    have hd : ∀ g left, dg U (m + 1 + 1) * 32768 + dg U (m + 1) = g * dg W (m + 1) + left → U / 32768 ^ m = g * dg W (m + 1) * 32768 + (left * 32768 + bh) ∧ g * (W / 32768 ^ m) = g * dg W (m + 1) * 32768 + g * nx := by
      intro g left e
      rw [u3, e, w2, Nat.mul_add, ← Nat.mul_assoc]
      generalize g * dg W (m + 1) = z
      exact ⟨by rw [Nat.add_mul, Nat.add_assoc], rfl⟩
    refine ⟨fun g left e h => ?_, fun g left e hg h => ?_⟩
    · obtain ⟨d1, d2⟩ := hd g left e
      have := kn_no (g := g) (nn_pos m) b2.1 rfl (show U / 32768 ^ m < g * (W / 32768 ^ m) by omega)
      rw [Nat.div_lt_iff_lt_mul hW]
      exact this
    · obtain ⟨d1, d2⟩ := hd g left e
      exact kn_ok hW b2.2 rfl (show g * (W / 32768 ^ m) ≤ U / 32768 ^ m by omega) (by omega)
/-- guessDigit(j): the digit, or one more -/
def c_guess : Call := ⟨Nat × Nat × Nat, 2, (fun (j, U, W) vs M => vs = [.inr (.inr 6), .inl (j : Int)] ∧ XR M 15 W ∧ j + nd W ≤ 129 ∧ 16384 ≤ dg W (nd W - 1) ∧ U < W * 32768 ∧ (∀ i, i ≤ nd W → M 14 (j + i) = (dg U i : Int))), .inr (fun (_, U, W) _ M x M' => ∃ g : Nat, x = (g : Int) ∧ U / W ≤ g ∧ g ≤ U / W + 1 ∧ M' = M)⟩
theorem v_guess (n : Nn) : Ver tX0_guessDigit (fdX0, icX0, lcX0, [(50, some 5, c_limbAt)]) 1 10 n c_guess := by
  rintro ⟨j, U, W⟩ vs M0 ⟨rfl, hW, hj, htop, hU, hD⟩ aw run
  have hW1 : M0 15 1 = (nd W : Int) := hW.1
  have l14 : lnF n 14 = 130 := rfl
  have m14 : lnF n (13 + 1) = 130 := rfl
  have n1 : nd W ≠ 0 := fun z => by rw [nd_z.mp z] at hU; omega
  obtain ⟨m, em⟩ : ∃ m, nd W = m + 1 := ⟨nd W - 1, by omega⟩
  rw [em, show m + 1 - 1 = m by omega] at htop
  obtain ⟨nx, enx⟩ : ∃ y : Nat, (y : Int) = dgZ W ((m : Int) - 1) := ⟨(dgZ W ((m : Int) - 1)).toNat, by have := dgZ_rng W ((m : Int) - 1); omega⟩
  obtain ⟨bh, ebh⟩ : ∃ y : Nat, y = if m = 0 then 0 else dg U (m - 1) := ⟨_, rfl⟩
  obtain ⟨k1, k2, k3, kA, kB⟩ := kn_all m em htop hU nx bh enx ebh
  have hnx : nx < 32768 := by have := dgZ_rng W ((m : Int) - 1); omega
  have hbh : bh < 32768 := by
    rw [ebh]
    split
    · omega
    · exact dg_lt _ _
  have g0 := dg_lt W m
  have g1 := dg_lt U (m + 1)
  have g2 := dg_lt U m
  generalize hq : U / W = Q at *
  obtain ⟨head, ehead⟩ : ∃ y, y = dg U (m + 1) * 32768 + dg U m := ⟨_, rfl⟩
  rw [← ehead] at k1 k2
  simp only [← ehead] at kA kB
  generalize etop : dg W m = top at *
  have loop : ∀ (r k g left : Nat), k + r = 2 → head = g * top + left → Q ≤ g → g + k ≤ Q + 2 → left < 65536 → (k = 0 → left < top) → aw 106 [some (.inr (.inr 6)), some (.inl (j : Int)), some (.inl (nd W : Int)), some (.inl (top : Int)), some (.inl (nx : Int)), some (.inl (head : Int)), some (.inl (bh : Int)), some (.inl (g : Int)), some (.inl (left : Int)), some (.inl (k : Int))] [] M0 := by
    intro r
    induction r with
    | zero =>
      intro k g left hk he hg1 hg2 hl hl0
      refine run 60 [106] _ _ _ _ ?_
      refine And.intro ⟨⟨by omega, by omega⟩, ⟨by omega, by omega⟩⟩ (And.intro (fun _ => ?_) (fun c2 => absurd c2 (by omega)))
      exact Or.inl ⟨g, rfl, by rw [hq]; exact hg1, by rw [hq]; omega, rfl⟩
    | succ r ih =>
      intro k g left hk he hg1 hg2 hl hl0
      have go : left ≤ 32767 → Q < g → aw 147 [some (.inr (.inr 6)), some (.inl (j : Int)), some (.inl (nd W : Int)), some (.inl (top : Int)), some (.inl (nx : Int)), some (.inl (head : Int)), some (.inl (bh : Int)), some (.inl (g : Int)), some (.inl (left : Int)), some (.inl (k : Int))] [] M0 := by
        intro h1 h2
        obtain ⟨g', rfl⟩ : ∃ g', g = g' + 1 := ⟨g - 1, by omega⟩
        refine run 60 [106] _ _ _ _ ?_
        refine And.intro ?_ trivial
        have := ih (k + 1) g' (left + top) (by omega) (by rw [he, Nat.add_mul, Nat.one_mul]; omega) (by omega) (by omega) (by omega) (fun z => by omega)
        rw [show ((g' + 1 : Nat) : Int) + -1 = (g' : Int) by omega, show (left : Int) + (top : Int) = ((left + top : Nat) : Int) by omega, show (k : Int) + 1 = ((k + 1 : Nat) : Int) by omega]
        exact this
      refine run 60 [106, 147] _ _ _ _ ?_
      refine And.intro ⟨⟨by omega, by omega⟩, ⟨by omega, by omega⟩⟩ (And.intro (fun c1 => absurd c1 (by omega)) (fun _ => ?_))
      refine And.intro ⟨⟨by omega, by omega⟩, ⟨by omega, by omega⟩⟩ (And.intro (fun c1 => ?_) (fun c2 => ?_))
      · exact Or.inl ⟨g, rfl, by rw [hq]; exact hg1, by rw [hq]; omega, rfl⟩
      refine And.intro ⟨⟨by omega, by omega⟩, ⟨by omega, by omega⟩⟩ (And.intro (fun c1 => ?_) (fun c2 => ?_))
      · exact And.intro (go (by omega) (by omega)) trivial
      have hm : g * nx ≤ 32767 * 32767 := Nat.mul_le_mul (by omega) (by omega)
      have e15 : (left : Int) * 2 ^ ((15 : Int)).toNat + (bh : Int) = ((left * 32768 + bh : Nat) : Int) := by
        rw [show ((2 : Int) ^ ((15 : Int)).toNat) = 32768 by decide]
        omega
      refine And.intro ⟨by omega, by omega⟩ ?_
      conv => whnf
      rw [e15, ← Int.natCast_mul]
      have hA := kA g left he
      have hB := kB g left he (by omega)
      generalize g * nx = z at *
      refine And.intro ⟨⟨by omega, by omega⟩, ⟨by omega, by omega⟩⟩ (And.intro (fun c1 => ?_) (fun c2 => ?_))
      · exact And.intro (go (by omega) (hA (by omega))) trivial
      · exact Or.inl ⟨g, rfl, by rw [hq]; exact hg1, by rw [hq]; exact hB (by omega), rfl⟩
  have L1 : M0 14 (j + (m + 1)) = (dg U (m + 1) : Int) := hD _ (by omega)
  have L2 : M0 14 (j + m) = (dg U m : Int) := hD _ (by omega)
  have fin : aw 89 [some (.inr (.inr 6)), some (.inl (j : Int)), some (.inl (nd W : Int)), some (.inl (top : Int)), some (.inl (nx : Int)), some (.inl (head : Int)), none, none, none, none] [.inl (bh : Int)] M0 := by
    refine run 60 [106] _ _ _ _ ?_
    refine And.intro ⟨by omega, by omega, ⟨by omega, by omega⟩, ⟨by omega, by omega⟩⟩ (And.intro ⟨by omega, by omega, ⟨by omega, by omega⟩, ⟨by omega, by omega⟩⟩ (And.intro ?_ trivial))
    rw [← Int.natCast_ediv, ← Int.natCast_emod]
    have h1 := Nat.div_add_mod head top
    have h2 := Nat.mod_lt head (show 0 < top by omega)
    exact loop 2 0 (head / top) (head % top) rfl (by rw [Nat.mul_comm]; exact h1.symm) k1 (by omega) (by omega) (fun _ => h2)
  change aw 0 [some (.inr (.inr 6)), some (.inl (j : Int)), none, none, none, none, none, none, none, none] [] M0
  refine run 60 [89] _ _ _ _ ?_
  refine And.intro rfl (And.intro rfl (And.intro rfl ?_))
  conv => whnf
  rw [hW1]
  refine And.intro rfl ⟨(15, (nd W : Int) - 1, W), ⟨rfl, by decide, ⟨by omega, by omega⟩, hW, by omega⟩, ?_⟩
  rintro x M0 ⟨rfl, rfl⟩
  rw [show dgZ W ((nd W : Int) - 1) = (top : Int) by rw [em, show ((m + 1 : Nat) : Int) - 1 = (m : Int) by omega, dgZ_n, etop]]
  refine And.intro ⟨⟨by omega, by omega⟩, ⟨by omega, by omega⟩⟩ (And.intro (fun _ => ?_) (fun c2 => absurd c2 (by omega)))
  refine And.intro rfl (And.intro rfl ⟨(15, (nd W : Int) - 2, W), ⟨rfl, by decide, ⟨by omega, by omega⟩, hW, by omega⟩, ?_⟩)
  rintro x M0 ⟨rfl, rfl⟩
  rw [show dgZ W ((nd W : Int) - 2) = (nx : Int) by rw [em, show ((m + 1 : Nat) : Int) - 2 = (m : Int) - 1 by omega, enx]]
  refine And.intro rfl (And.intro rfl (And.intro ⟨rfl, by omega, by omega⟩ ?_))
  refine And.intro ⟨by omega, by omega⟩ ?_
  refine And.intro rfl (And.intro rfl (And.intro ⟨rfl, by omega, by omega⟩ ?_))
  conv => whnf
  rw [show ((j : Int) + (nd W : Int)).toNat = j + (m + 1) by omega, L1, show ((j : Int) + (nd W : Int) - 1).toNat = j + m by omega, L2, show (dg U (m + 1) : Int) * 2 ^ ((15 : Int)).toNat + (dg U m : Int) = (head : Int) by rw [show ((2 : Int) ^ ((15 : Int)).toNat) = 32768 by decide]; omega]
  refine And.intro ⟨⟨by omega, by omega⟩, ⟨by omega, by omega⟩⟩ (And.intro (fun c1 => ?_) (fun c2 => ?_))
  · refine And.intro ?_ trivial
    have : bh = 0 := by rw [ebh, if_pos (by omega)]
    rw [this] at fin
    exact fin
  · have L3 : M0 14 (j + (m - 1)) = (dg U (m - 1) : Int) := hD _ (by omega)
    refine And.intro rfl (And.intro rfl (And.intro ⟨rfl, by omega, by omega⟩ ?_))
    refine And.intro ?_ trivial
    rw [show ((j : Int) + (nd W : Int) - 2).toNat = j + (m - 1) by omega, L3]
    have : bh = dg U (m - 1) := by rw [ebh, if_neg (by omega)]
    rw [this] at fin
    exact fin
theorem imX0_guessDigit {l : Launch} {Z : ZT} (hZ : ZOk Z) : Impl l Z yX0_guessDigit cX0_guessDigit 10 (some .int) 2 c_guess := mkImpl (rt := 1) (CL := [(50, some 5, c_limbAt)]) hZ.1 hZ.2.1 (by decide +kernel) kX0_guessDigit fwX0 iwX0 lwX0 trivial (Nat.le_of_ble_eq_true rfl) (List.forall_mem_cons.mpr ⟨gX0_50 hZ (by decide), fun q h => absurd h List.not_mem_nil⟩) ((v_guess _))
theorem gX0_82 {l : Launch} {Z : ZT} (hZ : ZOk Z) {d : Nat} (hd : 3 ≤ d) : CallI l Z RX0 d (82, some 0, c_guess) := fun p e s m args below meth c Q cc nL x0 X => callOk_V X (imX0_guessDigit hZ) (by decide) rfl mlX0_82 iw_yX0_guessDigit vw_yX0_guessDigit nw_RX0 cw_yX0_guessDigit ⟨by decide +kernel, by decide +kernel, by decide +kernel⟩ ⟨hd, by decide⟩
