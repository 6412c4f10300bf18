/-! ===== bits ===== -/
def nb (v : Nat) : Nat := if v = 0 then 0 else v.log2 + 1
theorem nb_le {v k : Nat} : nb v ≤ k ↔ v < 2 ^ k := by
  unfold nb
  by_cases h : v = 0
  · rw [if_pos h, h]
    exact ⟨fun _ => Nat.pow_pos (by decide), fun _ => Nat.zero_le k⟩
  · rw [if_neg h, ← Nat.log2_lt h]
    omega
theorem nb_0 : nb 0 = 0 := rfl
theorem nb_div {v m : Nat} (h : v / 2 ^ m ≠ 0) : nb v = m + nb (v / 2 ^ m) := by
  have key : ∀ k, nb v ≤ m + k ↔ nb (v / 2 ^ m) ≤ k := by
    intro k
    rw [nb_le, nb_le, Nat.div_lt_iff_lt_mul (Nat.pow_pos (by decide)), Nat.pow_add, Nat.mul_comm]
  have h1 := (key (nb (v / 2 ^ m))).mpr (Nat.le_refl _)
  have h2 : nb (v / 2 ^ m) ≠ 0 := fun e => h (Nat.lt_one_iff.mp ((nb_le (v := v / 2 ^ m) (k := 0)).mp (Nat.le_of_eq e)))
  have h3 := key (nb (v / 2 ^ m) - 1)
  omega
theorem nb_half {x : Nat} (h : x ≠ 0) : nb x = nb (x / 2) + 1 := by
  by_cases h1 : x = 1
  · subst h1; decide
  · have := nb_div (v := x) (m := 1) (by simp; omega)
    simp at this
    omega
theorem nb_lim (v : Nat) (h : v ≠ 0) : nb v = 15 * (nd v - 1) + nb (dg v (nd v - 1)) := by
  have h0 : nd v ≠ 0 := fun e => h (nd_z.mp e)
  have h1 : 32768 ^ (nd v - 1) ≤ v := nd_gt.mp (by omega)
  have h2 : v < 32768 ^ (nd v - 1) * 32768 := by rw [← nn_succ, show nd v - 1 + 1 = nd v by omega]; exact nd_lt v
  have e : dg v (nd v - 1) = v / 2 ^ (15 * (nd v - 1)) := by
    unfold dg
    rw [← nn_pw, Nat.mod_eq_of_lt]
    rw [Nat.div_lt_iff_lt_mul (nn_pos _), Nat.mul_comm]
    exact h2
  rw [e]
  refine nb_div ?_
  rw [← nn_pw]
  have := (Nat.le_div_iff_mul_le (nn_pos (nd v - 1))).mpr (show 1 * 32768 ^ (nd v - 1) ≤ v by omega)
  omega
theorem bAnd_m (x : Int) (k : Nat) (hk : k ≤ 30) (y : Int) (hy : y = 2 ^ k - 1) : bAnd x y = x % 2 ^ k := by
  subst hy
  have hp : (2 : Int) ^ k = ((2 ^ k : Nat) : Int) := by simp
  have h1 : 0 < 2 ^ k := Nat.pow_pos (by decide)
  have h2 : 2 ^ k ≤ 2 ^ 30 := Nat.pow_le_pow_right (by decide) hk
  have hm : (Int32.ofInt ((2 : Int) ^ k - 1)).toBitVec.toNat = 2 ^ k - 1 := by
    show (BitVec.ofInt 32 _).toNat = _
    rw [BitVec.toNat_ofInt, hp]
    omega
  unfold bAnd
  rw [pk_and _ k hm]
  have e1 : (Int32.ofInt x).toBitVec.toNat % 2 ^ k = (x % 2 ^ k).toNat := by
    show (BitVec.ofInt 32 x).toNat % 2 ^ k = _
    rw [BitVec.toNat_ofInt]
    have hd : ((2 ^ k : Nat) : Int) ∣ ((2 ^ 32 : Nat) : Int) := by
      refine ⟨((2 ^ (32 - k) : Nat) : Int), ?_⟩
      rw [← Int.natCast_mul, ← Nat.pow_add, show k + (32 - k) = 32 by omega]
    have hz : 0 ≤ x % ((2 ^ 32 : Nat) : Int) := Int.emod_nonneg _ (by decide)
    apply Int.ofNat.inj
    show (((x % ((2 ^ 32 : Nat) : Int)).toNat % 2 ^ k : Nat) : Int) = ((x % 2 ^ k).toNat : Int)
    rw [Int.natCast_emod, Int.toNat_of_nonneg hz, Int.emod_emod_of_dvd _ hd, Int.toNat_of_nonneg (by rw [hp]; exact Int.emod_nonneg _ (by omega)), hp]
  rw [e1, nI_toInt, Int.toNat_of_nonneg (by rw [hp]; exact Int.emod_nonneg _ (by omega))]
  have := Int.emod_lt_of_pos x (show (0 : Int) < 2 ^ k by rw [hp]; omega)
  omega
theorem bAnd_1 (x : Int) : bAnd x 1 = x % 2 := bAnd_m x 1 (by decide) 1 rfl
theorem bAnd_15 (x : Int) : bAnd x 32767 = x % 32768 := bAnd_m x 15 (by decide) 32767 rfl
theorem bAnd_8 (x : Int) : bAnd x 255 = x % 256 := bAnd_m x 8 (by decide) 255 rfl
/-- bit i of a number -/
theorem bit_dg (v i : Nat) : dg v (i / 15) / 2 ^ (i % 15) % 2 = v / 2 ^ i % 2 := by
  have h : (dg v (i / 15)).testBit (i % 15) = v.testBit i := by
    unfold dg
    rw [nn_pw, show (32768 : Nat) = 2 ^ 15 by rfl, Nat.testBit_mod_two_pow, Nat.testBit_div_two_pow]
    have e : i % 15 + 15 * (i / 15) = i := by omega
    rw [e]
    have : i % 15 < 15 := by omega
    simp [this]
  rw [Nat.testBit_eq_decide_div_mod_eq, Nat.testBit_eq_decide_div_mod_eq] at h
  have h2 := decide_eq_decide.mp h
  omega
/-- bits(s) -/
def c_bits : Call := ⟨Nat × Nat, 2, (fun (s, v) vs M => vs = [.inr (.inr 50), .inl (s : Int)] ∧ s < 37 ∧ MH M s v ∧ nd v ≤ 420), .inr (fun (_, v) _ M x M' => x = (nb v : Int) ∧ M' = M)⟩
theorem v_bits (n : Nn) : Ver tX8_bits (fdX8, icX8, lcX8, [(76, some 8, c_at)]) 1 4 n c_bits := by
  rintro ⟨s, v⟩ vs M0 ⟨rfl, hs, hv, hn⟩ aw run
  have hl : lnF n 52 = 37 := rfl
  have h1 := hv.1
  have loop : ∀ (k x c : Nat), x ≤ k → x < 32768 → c < 100000 → c + nb x = nb v → aw 37 [some (.inr (.inr 50)), some (.inl (s : Int)), some (.inl (c : Int)), some (.inl (x : Int))] [] M0 := by
    intro k
    induction k with
    | zero =>
      intro x c hx hx2 hc he
      obtain rfl : x = 0 := by omega
      rw [nb_0] at he
      refine run 60 [37] _ _ _ _ ?_
      repeat' first | intro h | refine And.intro ?_ ?_
      all_goals first | omega | rfl | trivial | skip
      refine Or.inl (And.intro ?_ rfl)
      show (c : Int) = (nb v : Int)
      omega
    | succ k ih =>
      intro x c hx hx2 hc he
      refine run 60 [37] _ _ _ _ ?_
      repeat' first | intro h | refine And.intro ?_ ?_
      all_goals first | omega | rfl | trivial | skip
      · refine Or.inl (And.intro ?_ rfl)
        show (c : Int) = (nb v : Int)
        obtain rfl : x = 0 := by omega
        rw [nb_0] at he
        omega
      · have e1 := nb_half (x := x) (by omega)
        have e2 := nb_le (v := v) (k := 15 * nd v)
        rw [← nn_pw] at e2
        have e3 := e2.mpr (nd_lt v)
        rw [show (c : Int) + 1 = ((c + 1 : Nat) : Int) by omega, show (x : Int) / 2 = ((x / 2 : Nat) : Int) by omega]
        exact ih (x / 2) (c + 1) (by omega) (by omega) (by omega) (by omega)
  change aw 0 [some (.inr (.inr 50)), some (.inl (s : Int)), none, none] [] M0
  refine run 60 [37] _ _ _ _ ?_
  repeat' first | intro h | refine And.intro ?_ ?_
  all_goals try simp only [Int.toNat_natCast] at *
  all_goals first | omega | rfl | trivial | skip
  · refine ⟨(s, M0 52 s - 1, v), ⟨rfl, hs, ⟨by omega, by omega⟩, hv, hn⟩, ?_⟩
    rintro x M1 ⟨rfl, rfl⟩
    refine And.intro ?_ trivial
    have hv0 : v ≠ 0 := fun e => by rw [e, nd_0] at h1; omega
    have e1 := nb_lim v hv0
    rw [show M1 52 s - 1 = ((nd v - 1 : Nat) : Int) by omega, dgZ_n, show (15 : Int) * ((nd v - 1 : Nat) : Int) = ((15 * (nd v - 1) : Nat) : Int) by omega]
    have := dg_lt v (nd v - 1)
    exact loop _ _ _ (Nat.le_refl _) this (by omega) (by omega)
  · refine Or.inl (And.intro ?_ rfl)
    have hv0 : v = 0 := nd_z.mp (by omega)
    rw [hv0]
    rfl
theorem imX8_bits {l : Launch} {Z : ZT} (hZ : ZOk Z) : Impl l Z yX8_bits cX8_bits 4 (some .int) 2 c_bits := mkImpl (rt := 1) (CL := [(76, some 8, c_at)]) hZ.1 hZ.2.1 (by decide +kernel) kX8_bits fwX8 iwX8 lwX8 trivial (Nat.le_of_ble_eq_true rfl) (List.forall_mem_cons.mpr ⟨gX8_76 hZ (by decide), fun q h => absurd h List.not_mem_nil⟩) ((v_bits _))
theorem gX8_104 {l : Launch} {Z : ZT} (hZ : ZOk Z) {d : Nat} (hd : 3 ≤ d) : CallI l Z RX8 d (104, some 8, c_bits) := fun p e s m args below meth c Q cc nL x0 X => callOk_V X (imX8_bits hZ) (by decide) rfl mlX8_104 iw_yX8_bits vw_yX8_bits nw_RX8 cw_yX8_bits ⟨by decide +kernel, by decide +kernel, by decide +kernel⟩ ⟨hd, by decide⟩
/-- bit(s, i) -/
def c_bit : Call := ⟨Nat × Nat × Nat, 3, (fun (s, i, v) vs M => vs = [.inr (.inr 50), .inl (s : Int), .inl (i : Int)] ∧ s < 37 ∧ i < 100000 ∧ MH M s v ∧ nd v ≤ 420), .inr (fun (_, i, v) _ M x M' => x = ((v / 2 ^ i % 2 : Nat) : Int) ∧ M' = M)⟩
theorem v_bit (n : Nn) : Ver tX8_bit (fdX8, icX8, lcX8, [(76, some 8, c_at)]) 1 3 n c_bit := by
  rintro ⟨s, i, v⟩ vs M0 ⟨rfl, hs, hi, hv, hn⟩ aw run
  change aw 0 [some (.inr (.inr 50)), some (.inl (s : Int)), some (.inl (i : Int))] [] M0
  refine run 60 [] _ _ _ _ ?_
  repeat' first | intro h | refine And.intro ?_ ?_
  all_goals first | omega | rfl | trivial | skip
  rw [show (i : Int) / 15 = ((i / 15 : Nat) : Int) by omega]
  refine ⟨(s, ((i / 15 : Nat) : Int), v), ⟨rfl, hs, ⟨by omega, by omega⟩, hv, hn⟩, ?_⟩
  rintro x M1 ⟨rfl, rfl⟩
  rw [dgZ_n]
  have g := dg_lt v (i / 15)
  refine And.intro ⟨by omega, by omega, ⟨by omega, by omega⟩, ⟨by omega, by omega⟩⟩ (And.intro ⟨⟨by omega, by omega⟩, by omega, by omega⟩ ?_)
  refine Or.inl (And.intro ?_ rfl)
  show bAnd ((dg v (i / 15) : Int) / 2 ^ ((i : Int) % 15).toNat) 1 = _
  rw [bAnd_1, show ((i : Int) % 15).toNat = i % 15 by omega, ← bit_dg, Int.natCast_emod, Int.natCast_ediv]
  simp
theorem imX8_bit {l : Launch} {Z : ZT} (hZ : ZOk Z) : Impl l Z yX8_bit cX8_bit 3 (some .int) 2 c_bit := mkImpl (rt := 1) (CL := [(76, some 8, c_at)]) hZ.1 hZ.2.1 (by decide +kernel) kX8_bit fwX8 iwX8 lwX8 trivial (Nat.le_of_ble_eq_true rfl) (List.forall_mem_cons.mpr ⟨gX8_76 hZ (by decide), fun q h => absurd h List.not_mem_nil⟩) ((v_bit _))
theorem gX8_111 {l : Launch} {Z : ZT} (hZ : ZOk Z) {d : Nat} (hd : 3 ≤ d) : CallI l Z RX8 d (111, some 8, c_bit) := fun p e s m args below meth c Q cc nL x0 X => callOk_V X (imX8_bit hZ) (by decide) rfl mlX8_111 iw_yX8_bit vw_yX8_bit nw_RX8 cw_yX8_bit ⟨by decide +kernel, by decide +kernel, by decide +kernel⟩ ⟨hd, by decide⟩
