/-! ===== the reference: powers ===== -/
/-- the rows of L of the reference have changed, and nothing else -/
def FrL (M M' : Mem) (L : List Nat) : Prop := (∀ o, o ≠ 51 → o ≠ 52 → M' o = M o) ∧ (∀ s, s ∉ L → M' 52 s = M 52 s) ∧ ∀ j, (∀ s, s ∈ L → j < 420 * s ∨ 420 * s + 420 ≤ j) → M' 51 j = M 51 j
theorem FrL.rf (M : Mem) (L : List Nat) : FrL M M L := ⟨fun _ _ _ => rfl, fun _ _ => rfl, fun _ _ => rfl⟩
theorem FrL.tr {M M1 M2 : Mem} {L : List Nat} (h : FrL M M1 L) (h2 : FrL M1 M2 L) : FrL M M2 L := ⟨fun o a b => (h2.1 o a b).trans (h.1 o a b), fun s a => (h2.2.1 s a).trans (h.2.1 s a), fun j a => (h2.2.2 j a).trans (h.2.2 j a)⟩
theorem FrM.L {M M1 : Mem} {d : Nat} {L : List Nat} (h : FrM M M1 d) (hd : d ∈ L) : FrL M M1 L := ⟨h.1, fun s a => h.2.1 s (fun e => a (e ▸ hd)), fun j a => h.2.2 j (a d hd)⟩
theorem Fr2.L {M M1 : Mem} {q r : Nat} {L : List Nat} (h : Fr2 M M1 q r) (hq : q ∈ L) (hr : r ∈ L) : FrL M M1 L := ⟨h.1, fun s a => h.2.1 s (fun e => a (e ▸ hq)) (fun e => a (e ▸ hr)), fun j a => h.2.2 j (a q hq) (a r hr)⟩
theorem FrL.keep {M M' : Mem} {s v : Nat} {L : List Nat} (h : FrL M M' L) (hs : s ∉ L) (hv : MH M s v) (hn : nd v ≤ 420) : MH M' s v := by
  refine ⟨(h.2.1 s hs).trans hv.1, fun i hi => ?_⟩
  show M' 51 (420 * s + i) = _
  rw [h.2.2 _ (fun t ht => by
    have : t ≠ s := fun e => hs (e ▸ ht)
    omega)]
  exact hv.2 i hi
theorem nd_pr (a b : Nat) : nd (a * b) ≤ nd a + nd b := nd_le.mpr (nd_mul a b)
theorem nd_md {a m : Nat} (hm : m ≠ 0) : nd (a % m) ≤ nd m := nd_mono (Nat.le_of_lt (Nat.mod_lt _ (Nat.pos_of_ne_zero hm)))
/-- power(a, e, m, d) -/
def c_power : Call := ⟨Nat × Nat × Nat × Nat × Nat × Nat × Nat, 5, (fun (a, e, m, d, va, ve, wm) vs M => vs = [.inr (.inr 50), .inl (a : Int), .inl (e : Int), .inl (m : Int), .inl (d : Int)] ∧ a < 37 ∧ e < 37 ∧ m < 37 ∧ d < 37 ∧ a ∉ [30, 31, 35, 36, d] ∧ e ∉ [30, 31, 35, 36, d] ∧ m ∉ [30, 31, 35, 36, d] ∧ d ∉ [30, 31, 35, 36] ∧ MH M a va ∧ nd va ≤ 200 ∧ MH M e ve ∧ nd ve ≤ 200 ∧ MH M m wm ∧ nd wm ≤ 100 ∧ wm ≠ 0), .inl (fun (_, _, _, d, va, ve, wm) _ M M' => MH M' d (va ^ ve % wm) ∧ FrL M M' [30, 31, 35, 36, d])⟩
abbrev P_pow : Pool := (fdX8, icX8, lcX8, [(94, some 8, c_small), (97, some 8, c_divide), (101, some 8, c_copy), (104, some 8, c_bits), (108, some 8, c_product), (111, some 8, c_bit)])
set_option maxHeartbeats 4000000 in
theorem v_power (n : Nn) : Ver tX8_power P_pow 0 6 n c_power := by
  rintro ⟨a, e, m, d, va, ve, wm⟩ vs M0 ⟨rfl, ha, he, hm, hd, iA, iE, iM, iD, hA0, nA, hE0, nE, hM0, nM, hm0⟩ aw run
  have iA' := iA
  have iE' := iE
  have iM' := iM
  have iD' := iD
  simp only [List.mem_cons, List.not_mem_nil, or_false, not_or] at iA' iE' iM' iD'
  have hmp : 0 < wm := Nat.pos_of_ne_zero hm0
  obtain ⟨L, eL⟩ : ∃ L : List Nat, L = [30, 31, 35, 36, d] := ⟨_, rfl⟩
  have l30 : 30 ∈ L := by rw [eL]; simp
  have l31 : 31 ∈ L := by rw [eL]; simp
  have l35 : 35 ∈ L := by rw [eL]; simp
  have l36 : 36 ∈ L := by rw [eL]; simp
  have ld : d ∈ L := by rw [eL]; simp
  rw [← eL] at iA iE iM
  have hmd := fun x : Nat => nd_md (a := x) hm0
  have loop : ∀ (i : Nat) (M : Mem), i ≤ nb ve → MH M e ve → MH M m wm → MH M 30 (va % wm) → MH M d (va ^ (ve / 2 ^ i) % wm) → FrL M0 M L → aw 45 [some (.inr (.inr 50)), some (.inl (a : Int)), some (.inl (e : Int)), some (.inl (m : Int)), some (.inl (d : Int)), some (.inl ((i : Int) - 1))] [] M := by
    intro i
    induction i with
    | zero =>
      intro M hi hE hM hG hD hF
      refine run 60 [45] _ _ _ _ ?_
      repeat' first | intro h | refine And.intro ?_ ?_
      all_goals first | omega | rfl | trivial | skip
      rw [Nat.pow_zero, Nat.div_one] at hD
      exact Or.inl (And.intro hD (eL ▸ hF))
    | succ i ih =>
      intro M hi hE hM hG hD hF
      have hnb : nb ve ≤ 3000 := nb_le.mpr (by
        have := nd_lt ve
        rw [nn_pw] at this
        exact Nat.lt_of_lt_of_le this (Nat.pow_le_pow_right (by decide) (by omega)))
      obtain ⟨x, ex⟩ : ∃ x : Nat, x = ve / 2 ^ (i + 1) := ⟨_, rfl⟩
      have e2 : ve / 2 ^ i = 2 * x + ve / 2 ^ i % 2 := by
        rw [ex, Nat.pow_succ, ← Nat.div_div_eq_div_mul]
        omega
      rw [← ex] at hD
      obtain ⟨D, eD⟩ : ∃ D : Nat, D = va ^ x % wm := ⟨_, rfl⟩
      rw [← eD] at hD
      have nD : nd D ≤ nd wm := by rw [eD]; exact hmd _
      rw [show (((i + 1 : Nat) : Int) - 1) = (i : Int) by omega]
      have nDD := nd_pr D D
      have hsq : D * D % wm = va ^ (2 * x) % wm := by
        rw [eD, ← Nat.mul_mod, ← Nat.pow_add, Nat.two_mul]
      refine run 60 [45] _ _ _ _ ?_
      repeat' first | intro h | refine And.intro ?_ ?_
      all_goals first | omega | rfl | trivial | skip
      refine ⟨(d, d, 35, D, D), ⟨rfl, hd, hd, by decide, by omega, by omega, hD, hD, by omega⟩, ?_⟩
      rintro M1 ⟨hX, hF1⟩
      have hF1L : FrL M0 M1 L := hF.tr (hF1.L l35)
      have hM1 : MH M1 m wm := hF1.keep (by omega) hM (by omega)
      have hE1 : MH M1 e ve := hF1.keep (by omega) hE (by omega)
      have hG1 : MH M1 30 (va % wm) := hF1.keep (by omega) hG (by have := hmd va; omega)
      refine And.intro rfl ⟨(35, m, 31, d, D * D, wm), ⟨rfl, by decide, hm, by decide, hd, by decide, by omega, by omega, by omega, by omega, hX, by omega, hM1, by omega, hm0⟩, ?_⟩
      rintro M2 ⟨_, hd2, hF2⟩
      rw [hsq] at hd2
      have hM2 : MH M2 m wm := hF2.keep (by omega) (by omega) hM1 (by omega)
      have hE2 : MH M2 e ve := hF2.keep (by omega) (by omega) hE1 (by omega)
      have hG2 : MH M2 30 (va % wm) := hF2.keep (by omega) (by omega) hG1 (by have := hmd va; omega)
      have hF2L : FrL M0 M2 L := hF1L.tr (hF2.L l31 ld)
      refine And.intro rfl ⟨(e, i, ve), ⟨rfl, he, by omega, hE2, by omega⟩, ?_⟩
      rintro y M3 ⟨rfl, rfl⟩
      have hbit : ve / 2 ^ i % 2 < 2 := Nat.mod_lt _ (by decide)
      refine And.intro ⟨⟨by omega, by omega⟩, ⟨by omega, by omega⟩⟩ (And.intro (fun h1 => ?_) (fun h0 => ?_))
      · have hb1 : ve / 2 ^ i % 2 = 1 := by omega
        have n1 := hmd (va ^ (2 * x))
        have n2 := hmd va
        have n3 := nd_pr (va ^ (2 * x) % wm) (va % wm)
        have hpw : va ^ (2 * x) % wm * (va % wm) % wm = va ^ (ve / 2 ^ i) % wm := by
          rw [← Nat.mul_mod, e2, hb1, Nat.pow_succ]
        refine And.intro rfl ⟨(d, 30, 35, va ^ (2 * x) % wm, va % wm), ⟨rfl, hd, by decide, by decide, by omega, by decide, hd2, hG2, by omega⟩, ?_⟩
        rintro M4 ⟨hX4, hF4⟩
        have hM4 : MH M4 m wm := hF4.keep (by omega) hM2 (by omega)
        have hE4 : MH M4 e ve := hF4.keep (by omega) hE2 (by omega)
        have hG4 : MH M4 30 (va % wm) := hF4.keep (by decide) hG2 (by omega)
        refine And.intro rfl ⟨(35, m, 31, d, va ^ (2 * x) % wm * (va % wm), wm), ⟨rfl, by decide, hm, by decide, hd, by decide, by omega, by omega, by omega, by omega, hX4, by omega, hM4, by omega, hm0⟩, ?_⟩
        rintro M5 ⟨_, hd5, hF5⟩
        rw [hpw] at hd5
        refine And.intro ?_ trivial
        exact ih M5 (by omega) (hF5.keep (by omega) (by omega) hE4 (by omega)) (hF5.keep (by omega) (by omega) hM4 (by omega)) (hF5.keep (by decide) (by omega) hG4 (by omega)) hd5 ((hF2L.tr (hF4.L l35)).tr (hF5.L l31 ld))
      · have hb0 : ve / 2 ^ i % 2 = 0 := by omega
        refine And.intro ?_ trivial
        refine ih M3 (by omega) hE2 hM2 hG2 ?_ hF2L
        rw [e2, hb0]
        exact hd2
  change aw 0 [some (.inr (.inr 50)), some (.inl (a : Int)), some (.inl (e : Int)), some (.inl (m : Int)), some (.inl (d : Int)), none] [] M0
  refine run 60 [45] _ _ _ _ ?_
  refine And.intro rfl ⟨(35, 1), ⟨rfl, by decide, by decide⟩, ?_⟩
  rintro M1 ⟨hX, hF1⟩
  have hA1 : MH M1 a va := hF1.keep (by omega) hA0 (by omega)
  have hE1 : MH M1 e ve := hF1.keep (by omega) hE0 (by omega)
  have hM1 : MH M1 m wm := hF1.keep (by omega) hM0 (by omega)
  refine And.intro rfl ⟨(35, m, 31, d, 1, wm), ⟨rfl, by decide, hm, by decide, hd, by decide, by omega, by omega, by omega, by omega, hX, by rw [nd_1]; decide, hM1, by omega, hm0⟩, ?_⟩
  rintro M2 ⟨_, hd2, hF2⟩
  have hA2 : MH M2 a va := hF2.keep (by omega) (by omega) hA1 (by omega)
  have hE2 : MH M2 e ve := hF2.keep (by omega) (by omega) hE1 (by omega)
  have hM2 : MH M2 m wm := hF2.keep (by omega) (by omega) hM1 (by omega)
  refine And.intro rfl ⟨(a, m, 31, 36, va, wm), ⟨rfl, ha, hm, by decide, by decide, by omega, by omega, by omega, by omega, by decide, hA2, by omega, hM2, by omega, hm0⟩, ?_⟩
  rintro M3 ⟨_, hY, hF3⟩
  have n1 := hmd va
  have n2 := hmd 1
  have hE3 : MH M3 e ve := hF3.keep (by omega) (by omega) hE2 (by omega)
  have hM3 : MH M3 m wm := hF3.keep (by omega) (by omega) hM2 (by omega)
  have hd3 : MH M3 d (1 % wm) := hF3.keep (by omega) (by omega) hd2 (by omega)
  refine And.intro rfl ⟨(36, 30, va % wm), ⟨rfl, by decide, by decide, hY, by omega⟩, ?_⟩
  rintro M4 ⟨hG, hF4⟩
  have hE4 : MH M4 e ve := hF4.keep (by omega) hE3 (by omega)
  have hM4 : MH M4 m wm := hF4.keep (by omega) hM3 (by omega)
  have hd4 : MH M4 d (1 % wm) := hF4.keep (by omega) hd3 (by omega)
  refine And.intro rfl ⟨(e, ve), ⟨rfl, he, hE4, by omega⟩, ?_⟩
  rintro x M5 ⟨rfl, rfl⟩
  refine And.intro ?_ trivial
  refine loop (nb ve) M5 (Nat.le_refl _) hE4 hM4 hG ?_ ((((((hF1.L l35).tr (hF2.L l31 ld)).tr (hF3.L l31 l36)).tr (hF4.L l30))))
  rw [Nat.div_eq_of_lt (nb_le.mp (Nat.le_refl _)), Nat.pow_zero]
  exact hd4
theorem imX8_power {l : Launch} {Z : ZT} (hZ : ZOk Z) : Impl l Z yX8_power cX8_power 6 none 4 c_power := mkImpl (rt := 0) (CL := [(94, some 8, c_small), (97, some 8, c_divide), (101, some 8, c_copy), (104, some 8, c_bits), (108, some 8, c_product), (111, some 8, c_bit)]) hZ.1 hZ.2.1 (by decide +kernel) kX8_power fwX8 iwX8 lwX8 trivial (Nat.le_of_ble_eq_true rfl) (List.forall_mem_cons.mpr ⟨gX8_94 hZ (by decide), List.forall_mem_cons.mpr ⟨gX8_97 hZ (by decide), List.forall_mem_cons.mpr ⟨gX8_101 hZ (by decide), List.forall_mem_cons.mpr ⟨gX8_104 hZ (by decide), List.forall_mem_cons.mpr ⟨gX8_108 hZ (by decide), List.forall_mem_cons.mpr ⟨gX8_111 hZ (by decide), fun q h => absurd h List.not_mem_nil⟩⟩⟩⟩⟩⟩) ((v_power _))
theorem gX8_159 {l : Launch} {Z : ZT} (hZ : ZOk Z) {d : Nat} (hd : 5 ≤ d) : CallI l Z RX8 d (159, some 8, c_power) := fun p e s m args below meth c Q cc nL x0 X => callOk_V X (imX8_power hZ) (by decide) rfl mlX8_159 iw_yX8_power vw_yX8_power nw_RX8 cw_yX8_power ⟨by decide +kernel, by decide +kernel, by decide +kernel⟩ ⟨hd, by decide⟩
