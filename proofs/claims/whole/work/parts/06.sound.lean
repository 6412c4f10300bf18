/-! ===== the machine does what the steps say ===== -/
theorem fLs_iff {α : Type} (l : List α) : ∀ k : List α → Prop, fLs l k ↔ k l := by
  induction l with
  | nil => intro k; exact Iff.rfl
  | cons a r ih => intro k; unfold fLs; exact ih _
theorem lkN_mem {α : Type _} {l : List (Nat × α)} {n : Nat} {b : α} (h : lkN l n = some b) : (n, b) ∈ l := by
  induction l with
  | nil => cases h
  | cons q r ih =>
    obtain ⟨a, v⟩ := q
    unfold lkN at h
    cases hb : Nat.beq n a with
    | true =>
      rw [hb] at h
      have : n = a := Nat.eq_of_beq_eq_true hb
      cases h
      rw [this]
      exact List.mem_cons_self
    | false =>
      rw [hb] at h
      exact List.mem_cons_of_mem _ (ih h)
theorem sv1_len (lc : Lc) : ∀ (k : Nat) (v : AV), (sv1 lc k v).length = lc.length := by
  induction lc with
  | nil => intro k v; unfold sv1; rfl
  | cons a r ih =>
    intro k v
    match k with
    | 0 => simp [sv1]
    | 1 => rcases a with _ | (x | x | x) <;> simp [sv1, ih]
    | k + 2 => simp [sv1, ih]
theorem sv1_at (lc : Lc) : ∀ (k j : Nat) (v w : AV), (sv1 lc k v)[j]? = some (some w) → (j = k ∧ w = v) ∨ (j ≠ k ∧ lc[j]? = some (some w) ∧ (j + 1 = k → isLng (some w) = false)) := by
  induction lc with
  | nil => intro k j v w h; simp [sv1] at h
  | cons a r ih =>
    intro k j v w h
    match k, j with
    | 0, 0 => simp [sv1] at h; exact Or.inl ⟨rfl, h.symm⟩
    | 0, j + 1 => simp [sv1] at h; exact Or.inr ⟨by omega, by simpa using h, fun e => by omega⟩
    | 1, 0 =>
      rcases a with _ | (x | x | x)
      · simp [sv1] at h
      · simp [sv1] at h; subst h; exact Or.inr ⟨by omega, by simp, fun _ => rfl⟩
      · simp [sv1] at h
      · simp [sv1] at h; subst h; exact Or.inr ⟨by omega, by simp, fun _ => rfl⟩
    | 1, j + 1 =>
      have h : (sv1 r 0 v)[j]? = some (some w) := by rcases a with _ | (x | x | x) <;> simpa [sv1] using h
      rcases ih 0 j v w h with ⟨h1, h2⟩ | ⟨h1, h2, h3⟩
      · exact Or.inl ⟨by omega, h2⟩
      · exact Or.inr ⟨by omega, by simpa using h2, fun e => h3 (by omega)⟩
    | k + 2, 0 =>
      simp [sv1] at h
      subst h
      exact Or.inr ⟨by omega, by simp, fun e => by omega⟩
    | k + 2, j + 1 =>
      simp only [sv1, List.getElem?_cons_succ] at h
      rcases ih (k + 1) j v w h with ⟨h1, h2⟩ | ⟨h1, h2, h3⟩
      · exact Or.inl ⟨by omega, h2⟩
      · exact Or.inr ⟨by omega, by simpa using h2, fun e => h3 (by omega)⟩
theorem sv2_len (lc : Lc) : ∀ (k : Nat) (v : AV), (sv2 lc k v).length = lc.length := by
  induction lc with
  | nil => intro k v; unfold sv2; rfl
  | cons a r ih =>
    intro k v
    match k with
    | 0 => cases r <;> simp [sv2]
    | 1 => rcases a with _ | (x | x | x) <;> simp [sv2, ih]
    | k + 2 => simp [sv2, ih]
theorem sv2_at (lc : Lc) : ∀ (k j : Nat) (v w : AV), (sv2 lc k v)[j]? = some (some w) → (j = k ∧ w = v) ∨ (j ≠ k ∧ j ≠ k + 1 ∧ lc[j]? = some (some w) ∧ (j + 1 = k → isLng (some w) = false)) := by
  induction lc with
  | nil => intro k j v w h; simp [sv2] at h
  | cons a r ih =>
    intro k j v w h
    match k, j with
    | 0, 0 => cases r <;> (simp [sv2] at h; exact Or.inl ⟨rfl, h.symm⟩)
    | 0, 1 => cases r <;> simp [sv2] at h
    | 0, j + 2 =>
      cases r with
      | nil => simp [sv2] at h
      | cons b r => simp [sv2] at h; exact Or.inr ⟨by omega, by omega, by simpa using h, fun e => by omega⟩
    | 1, 0 =>
      rcases a with _ | (x | x | x)
      · simp [sv2] at h
      · simp [sv2] at h; subst h; exact Or.inr ⟨by omega, by omega, by simp, fun _ => rfl⟩
      · simp [sv2] at h
      · simp [sv2] at h; subst h; exact Or.inr ⟨by omega, by omega, by simp, fun _ => rfl⟩
    | 1, j + 1 =>
      have h : (sv2 r 0 v)[j]? = some (some w) := by rcases a with _ | (x | x | x) <;> simpa [sv2] using h
      rcases ih 0 j v w h with ⟨h1, h2⟩ | ⟨h1, h2, h3, h4⟩
      · exact Or.inl ⟨by omega, h2⟩
      · exact Or.inr ⟨by omega, by omega, by simpa using h3, fun e => h4 (by omega)⟩
    | k + 2, 0 =>
      simp [sv2] at h
      subst h
      exact Or.inr ⟨by omega, by omega, by simp, fun e => by omega⟩
    | k + 2, j + 1 =>
      simp only [sv2, List.getElem?_cons_succ] at h
      rcases ih (k + 1) j v w h with ⟨h1, h2⟩ | ⟨h1, h2, h3, h4⟩
      · exact Or.inl ⟨by omega, h2⟩
      · exact Or.inr ⟨by omega, by omega, by simpa using h3, fun e => h4 (by omega)⟩
theorem cvF_cat {Z : ZT} {w : AV} (h : isLng (some w) = false) : (cvF Z w).category = 1 := by
  match w, h with
  | .inl x, _ => rfl
  | .inr (.inr o), _ => rfl
/-- the machine's variables hold the listed ones -/
def LH (Z : ZT) (ls : Array Slot) (nL : Nat) (lc : Lc) : Prop := lc.length = nL ∧ ∃ lv : List (Nat × Value), lv_has ls nL lv ∧ ∀ (j : Nat) (w : AV), lc[j]? = some (some w) → (j, cvF Z w) ∈ lv
theorem LH.get {Z : ZT} {ls : Array Slot} {nL : Nat} {lc : Lc} (h : LH Z ls nL lc) {j : Nat} {w : AV} (hj : lc[j]? = some (some w)) : ls[j]? = some (.val (cvF Z w)) := by
  obtain ⟨-, lv, h1, h2⟩ := h
  exact h1.2.2 _ (h2 j w hj)
theorem LH.one {Z : ZT} {ls' : Array Slot} {nL : Nat} {lc : Lc} {k : Nat} {v : AV} {lv : List (Nat × Value)} (hlen : lc.length = nL) (h2 : ∀ (j : Nat) (w : AV), lc[j]? = some (some w) → (j, cvF Z w) ∈ lv)
    (h : lv_has ls' nL ((k, cvF Z v) :: lv.filter (fun q => !(q.1 == k) && !(q.1 + 1 == k && q.2.category == 2)))) : LH Z ls' nL (sv1 lc k v) := by
  refine ⟨by rw [sv1_len]; exact hlen, _, h, fun j w hj => ?_⟩
  rcases sv1_at lc k j v w hj with ⟨a1, a2⟩ | ⟨a1, a2, a3⟩
  · subst a1; subst a2
    exact List.mem_cons_self
  · refine List.mem_cons_of_mem _ (List.mem_filter.mpr ⟨h2 j w a2, ?_⟩)
    by_cases hk : j + 1 = k
    · have := cvF_cat (Z := Z) (a3 hk)
      simp [a1, this]
    · simp [a1, hk]
theorem LH.two {Z : ZT} {ls' : Array Slot} {nL : Nat} {lc : Lc} {k : Nat} {v : AV} {lv : List (Nat × Value)} (hlen : lc.length = nL) (h2 : ∀ (j : Nat) (w : AV), lc[j]? = some (some w) → (j, cvF Z w) ∈ lv)
    (h : lv_has ls' nL ((k, cvF Z v) :: lv.filter (fun q => !(q.1 == k) && (!(q.1 == k + 1) && !(q.1 + 1 == k && q.2.category == 2))))) : LH Z ls' nL (sv2 lc k v) := by
  refine ⟨by rw [sv2_len]; exact hlen, _, h, fun j w hj => ?_⟩
  rcases sv2_at lc k j v w hj with ⟨a1, a2⟩ | ⟨a1, a4, a2, a3⟩
  · subst a1; subst a2
    exact List.mem_cons_self
  · refine List.mem_cons_of_mem _ (List.mem_filter.mpr ⟨h2 j w a2, ?_⟩)
    by_cases hk : j + 1 = k
    · have := cvF_cat (Z := Z) (a3 hk)
      simp [a1, a4, this]
    · simp [a1, a4, hk]
/-! numbers -/
theorem inR_to {x : Int} (h : inR x) : (Int32.ofInt x).toInt = x := Int32.toInt_ofInt_of_le (by have := h.1; omega) (by have := h.2; omega)
theorem inL_to {x : Int} (h : inL x) : (Int64.ofInt x).toInt = x := Int64.toInt_ofInt_of_le (by have := h.1; omega) (by have := h.2; omega)
theorem inR_inj {x y : Int} (hx : inR x) (hy : inR y) : Int32.ofInt x = Int32.ofInt y ↔ x = y := by rw [← Int32.toInt_inj, inR_to hx, inR_to hy]
theorem inR_lt {x y : Int} (hx : inR x) (hy : inR y) : Int32.ofInt x < Int32.ofInt y ↔ x < y := by rw [Int32.lt_iff_toInt_lt, inR_to hx, inR_to hy]
theorem inR_le {x y : Int} (hx : inR x) (hy : inR y) : Int32.ofInt x ≤ Int32.ofInt y ↔ x ≤ y := by rw [Int32.le_iff_toInt_le, inR_to hx, inR_to hy]
theorem inR_0 : inR 0 := ⟨by omega, by omega⟩
theorem inR_div {x y : Int} (hx : inR x) (hy : inR y) (h0 : 0 ≤ x) (h1 : 0 < y) : Int32.ofInt x / Int32.ofInt y = Int32.ofInt (x / y) := by
  have h2 : 0 ≤ x / y := Int.ediv_nonneg h0 (by omega)
  have h3 : x / y ≤ x := Int.ediv_le_self _ h0
  have h4 : inR (x / y) := ⟨by omega, by have := hx.2; omega⟩
  rw [← Int32.toInt_inj, Int32.toInt_div_of_ne_right, inR_to hx, inR_to hy, inR_to h4, Int.tdiv_eq_ediv_of_nonneg h0]
  intro he
  have : y = -1 := (inR_inj hy (show inR (-1) from ⟨by omega, by omega⟩)).mp he
  omega
theorem inR_rem {x y : Int} (hx : inR x) (hy : inR y) (h0 : 0 ≤ x) (h1 : 0 < y) : Int32.ofInt x - Int32.ofInt x / Int32.ofInt y * Int32.ofInt y = Int32.ofInt (x % y) := by
  rw [inR_div hx hy h0 h1, ← Int32.ofInt_mul, ← Int32.ofInt_sub]
  congr 1
  rw [Int.emod_def, Int.mul_comm]
theorem inL_div {x y : Int} (hx : inL x) (hy : inL y) (h0 : 0 ≤ x) (h1 : 0 < y) : Int64.ofInt x / Int64.ofInt y = Int64.ofInt (x / y) := by
  have h2 : 0 ≤ x / y := Int.ediv_nonneg h0 (by omega)
  have h3 : x / y ≤ x := Int.ediv_le_self _ h0
  have h4 : inL (x / y) := ⟨by omega, by have := hx.2; omega⟩
  rw [← Int64.toInt_inj, Int64.toInt_div_of_ne_right, inL_to hx, inL_to hy, inL_to h4, Int.tdiv_eq_ediv_of_nonneg h0]
  intro he
  have : (Int64.ofInt y).toInt = (-1 : Int64).toInt := by rw [he]
  rw [inL_to hy] at this
  have h9 : (-1 : Int64).toInt = -1 := by decide
  omega
theorem inL_rem {x y : Int} (hx : inL x) (hy : inL y) (h0 : 0 ≤ x) (h1 : 0 < y) : Int64.ofInt x - Int64.ofInt x / Int64.ofInt y * Int64.ofInt y = Int64.ofInt (x % y) := by
  rw [inL_div hx hy h0 h1, ← Int64.ofInt_mul, ← Int64.ofInt_sub]
  congr 1
  rw [Int.emod_def, Int.mul_comm]
theorem sh_cnt : ∀ n : Nat, n < 32 → ((Int32.ofNat n &&& 31).toBitVec.smod 32).toNat = n := by decide +kernel
theorem sh_of {y : Int} (h0 : 0 ≤ y) : Int32.ofInt y = Int32.ofNat y.toNat := by
  rw [← Int32.ofInt_eq_ofNat]
  congr 1
  omega
theorem inR_shl {x y : Int} (h0 : 0 ≤ y) (h1 : y < 32) : Int32.ofInt x <<< (Int32.ofInt y &&& 31) = Int32.ofInt (x * 2 ^ y.toNat) := by
  have hs : ((Int32.ofInt y &&& 31).toBitVec.smod 32).toNat = y.toNat := by rw [sh_of h0]; exact sh_cnt _ (by omega)
  apply Int32.toBitVec.inj
  apply BitVec.eq_of_toNat_eq
  rw [pk_shl _ _ _ hs]
  have e1 : (Int32.ofInt (x * 2 ^ y.toNat)).toBitVec = BitVec.ofInt 32 (x * 2 ^ y.toNat) := rfl
  have e2 : (Int32.ofInt x).toBitVec = BitVec.ofInt 32 x := rfl
  rw [e1, e2, BitVec.toNat_ofInt, BitVec.toNat_ofInt]
  have hz : ∀ a : Int, ((a % ((2 ^ 32 : Nat) : Int)).toNat : Int) = a % ((2 ^ 32 : Nat) : Int) := fun a => Int.toNat_of_nonneg (Int.emod_nonneg _ (by decide))
  apply Int.ofNat.inj
  show (((x % ((2 ^ 32 : Nat) : Int)).toNat * 2 ^ y.toNat % 2 ^ 32 : Nat) : Int) = (((x * 2 ^ y.toNat) % ((2 ^ 32 : Nat) : Int)).toNat : Int)
  rw [hz, Int.natCast_emod, Int.natCast_mul, hz]
  have : ((2 ^ y.toNat : Nat) : Int) = (2 : Int) ^ y.toNat := by simp
  rw [this, Int.mul_emod (x % _), Int.emod_emod, ← Int.mul_emod]
theorem inR_shr {x y : Int} (hx : inR x) (h0 : 0 ≤ y) (h1 : y < 32) : Int32.ofInt x >>> (Int32.ofInt y &&& 31) = Int32.ofInt (x / 2 ^ y.toNat) := by
  have hs : ((Int32.ofInt y &&& 31).toBitVec.smod 32).toNat = y.toNat := by rw [sh_of h0]; exact sh_cnt _ (by omega)
  rw [← Int32.toInt_inj, pk_shr _ _ _ hs, inR_to hx, Int.shiftRight_eq_div_pow]
  have hp : (0 : Int) < 2 ^ y.toNat := Int.pow_pos (by omega)
  have h4 : inR (x / 2 ^ y.toNat) := by
    constructor
    · have : x / 2 ^ y.toNat ≥ x ∨ x / 2 ^ y.toNat ≥ 0 := by
        by_cases hn : 0 ≤ x
        · exact Or.inr (Int.ediv_nonneg hn (by omega))
        · left
          have := Int.le_ediv_of_mul_le hp (show x * 2 ^ y.toNat ≤ x from by
            have h9 : (1 : Int) ≤ 2 ^ y.toNat := hp
            have := Int.mul_le_mul_of_nonpos_left (show x ≤ 0 by omega) h9
            omega)
          exact this
      have := hx.1
      omega
    · have : x / 2 ^ y.toNat ≤ x ∨ x / 2 ^ y.toNat < 1 := by
        by_cases hn : 0 ≤ x
        · exact Or.inl (Int.ediv_le_self _ hn)
        · right
          have := Int.ediv_neg_of_neg_of_pos (show x < 0 by omega) hp
          omega
      have := hx.2
      omega
  rw [inR_to h4]
  simp
