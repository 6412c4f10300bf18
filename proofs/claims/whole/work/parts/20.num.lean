/-! ===== numbers: digits to the base 32768 ===== -/
theorem nn_pw (n : Nat) : 32768 ^ n = 2 ^ (15 * n) := by rw [Nat.pow_mul]
theorem nn_pos (n : Nat) : 0 < 32768 ^ n := Nat.pow_pos (by decide)
theorem nn_succ (n : Nat) : 32768 ^ (n + 1) = 32768 ^ n * 32768 := Nat.pow_succ _ _
def dg (v i : Nat) : Nat := v / 32768 ^ i % 32768
def nd (v : Nat) : Nat := if v = 0 then 0 else v.log2 / 15 + 1
theorem nd_le {v n : Nat} : nd v ≤ n ↔ v < 32768 ^ n := by
  unfold nd
  by_cases h : v = 0
  · rw [if_pos h, h]
    exact ⟨fun _ => nn_pos n, fun _ => Nat.zero_le n⟩
  · rw [if_neg h, nn_pw, ← Nat.log2_lt h]
    omega
theorem nd_gt {v n : Nat} : n < nd v ↔ 32768 ^ n ≤ v := by
  have := nd_le (v := v) (n := n)
  omega
theorem nd_lt (v : Nat) : v < 32768 ^ nd v := nd_le.mp (Nat.le_refl _)
theorem nd_0 : nd 0 = 0 := rfl
theorem nd_z {v : Nat} : nd v = 0 ↔ v = 0 := by
  have := nd_le (v := v) (n := 0)
  simp at this
  omega
theorem dg_lt (v i : Nat) : dg v i < 32768 := Nat.mod_lt _ (by decide)
theorem dg_z {v i : Nat} (h : nd v ≤ i) : dg v i = 0 := by
  unfold dg
  rw [Nat.div_eq_of_lt (nd_le.mp h)]
theorem dg_top {v : Nat} (h : v ≠ 0) : dg v (nd v - 1) ≠ 0 := by
  have h0 : nd v ≠ 0 := fun e => h (nd_z.mp e)
  have h1 : 32768 ^ (nd v - 1) ≤ v := nd_gt.mp (by omega)
  have h2 : v < 32768 ^ (nd v - 1 + 1) := by rw [show nd v - 1 + 1 = nd v by omega]; exact nd_lt v
  rw [nn_succ] at h2
  have hp := nn_pos (nd v - 1)
  have h3 : 1 ≤ v / 32768 ^ (nd v - 1) := (Nat.le_div_iff_mul_le hp).mpr (by omega)
  have h4 : v / 32768 ^ (nd v - 1) < 32768 := (Nat.div_lt_iff_lt_mul hp).mpr (by rw [Nat.mul_comm]; exact h2)
  unfold dg
  rw [Nat.mod_eq_of_lt h4]
  omega
theorem md_s (v i : Nat) : v % 32768 ^ (i + 1) = v % 32768 ^ i + 32768 ^ i * dg v i := by
  unfold dg
  rw [nn_succ, Nat.mod_mul]
theorem md_nd {v n : Nat} (h : nd v ≤ n) : v % 32768 ^ n = v := Nat.mod_eq_of_lt (nd_le.mp h)
theorem md_eq {a b : Nat} : ∀ {n : Nat}, (∀ i, i < n → dg a i = dg b i) → a % 32768 ^ n = b % 32768 ^ n := by
  intro n
  induction n with
  | zero => intro _; simp [Nat.mod_one]
  | succ n ih =>
    intro h
    rw [md_s, md_s, ih (fun i hi => h i (by omega)), h n (by omega)]
theorem nd_ext {a b : Nat} (h1 : nd a = nd b) (h2 : ∀ i, i < nd a → dg a i = dg b i) : a = b := by
  have := md_eq h2
  rwa [md_nd (Nat.le_refl _), h1, md_nd (Nat.le_refl _)] at this
theorem nd_mono {a b : Nat} (h : a ≤ b) : nd a ≤ nd b := nd_le.mpr (Nat.lt_of_le_of_lt h (nd_lt b))
/-- n limbs of f are the number v, in its shortest form -/
def Hd (f : Nat → Int) (n : Int) (v : Nat) : Prop := n = (nd v : Int) ∧ ∀ i, i < nd v → f i = (dg v i : Int)
theorem Hd.inj {f : Nat → Int} {n : Int} {v w : Nat} (h1 : Hd f n v) (h2 : Hd f n w) : v = w := by
  have e : nd v = nd w := by have := h1.1; have := h2.1; omega
  refine nd_ext e (fun i hi => ?_)
  have a := h1.2 i hi
  have b := h2.2 i (by omega)
  omega
theorem Hd.cong {f g : Nat → Int} {n : Int} {v : Nat} (h : Hd f n v) (e : ∀ i, i < nd v → g i = f i) : Hd g n v := ⟨h.1, fun i hi => (e i hi).trans (h.2 i hi)⟩
theorem nd_dn {v j : Nat} (h : nd v ≤ j + 1) (h0 : dg v j = 0) : nd v ≤ j := by
  by_cases e : nd v = j + 1
  · have hv : v ≠ 0 := fun q => by rw [q, nd_0] at e; omega
    have := dg_top hv
    rw [e] at this
    exact absurd h0 this
  · omega
theorem nd_up {v j : Nat} (h : nd v ≤ j + 1) (h0 : dg v j ≠ 0) : nd v = j + 1 := by
  by_cases e : nd v ≤ j
  · exact absurd (dg_z e) h0
  · omega
/-- a digit at an index that may be below 0 -/
def dgZ (v : Nat) (i : Int) : Int := if i < 0 then 0 else (dg v i.toNat : Int)
theorem dgZ_n (v i : Nat) : dgZ v (i : Int) = (dg v i : Int) := by
  unfold dgZ
  rw [if_neg (by omega)]
  rfl
theorem dgZ_neg {v : Nat} {i : Int} (h : i < 0) : dgZ v i = 0 := by unfold dgZ; rw [if_pos h]
theorem dgZ_rng (v : Nat) (i : Int) : 0 ≤ dgZ v i ∧ dgZ v i < 32768 := by
  unfold dgZ
  split
  · omega
  · have := dg_lt v i.toNat
    omega
/-- what is known of the parameters: addresses apart, small rows, the document's limits -/
def ZOk (Z : ZT) : Prop := adOk Z ∧ (∀ a, lnF (zN Z) a < 2147483648) ∧ 1 ≤ (zN Z).1 ∧ (zN Z).1 ≤ 24 ∧ 16 ≤ (zN Z).2.1 ∧ (zN Z).2.1 ≤ 800 ∧ 8 ≤ (zN Z).2.2 ∧ (zN Z).2.2 ≤ 400
theorem gcp_X5 {l : Launch} {Z : ZT} (hZ : ZOk Z) {d : Nat} (hd : 1 ≤ d) : CallI l Z RX5 d (19, none, cpC (zN Z)) := fun p e s m args below meth c Q cc nL x0 X => callOk_cp X hZ.2.1 ⟨mlX5_19, ac_native, ac_static, ac_init⟩ hd
