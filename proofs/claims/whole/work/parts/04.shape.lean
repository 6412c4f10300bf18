/-! ===== the state as one memory of ints: what stands in each object and row that the system ever has ===== -/
abbrev AV : Type := Int ⊕ Int ⊕ Nat
abbrev Mem : Type := Nat → Nat → Int
abbrev Lc : Type := List (Option AV)
abbrev Kt : Type := Nat → Lc → List AV → Mem → Prop
/-- kind and references of each of the 67 cells: kinds 0 .. 8 as in vwCl, 100 a row of ints, 101 a row of booleans -/
def shT : List (Nat × List Nat) := [
  (7, [1, 6, 39, 41, 43, 47, 21, 23, 25, 0]),
  (1, [0, 2, 3, 4, 5, 0, 0]), (100, []), (100, []), (100, []), (100, []),
  (0, [7, 9, 11, 13, 15, 17, 19]),
  (5, [8, 0]), (100, []), (5, [10, 0]), (100, []), (5, [12, 0]), (100, []), (5, [14, 0]), (100, []), (5, [16, 0]), (100, []), (5, [18, 0]), (100, []), (5, [20, 0]), (100, []),
  (5, [22, 0]), (100, []), (5, [24, 0]), (100, []), (5, [26, 0]), (100, []),
  (5, [28, 0]), (100, []), (5, [30, 0]), (100, []), (5, [32, 0]), (100, []), (5, [34, 0]), (100, []), (5, [36, 0]), (100, []), (5, [38, 0]), (100, []),
  (6, [40, 0]), (100, []),
  (3, [42, 0]), (100, []),
  (2, [44, 0, 45, 46, 0, 27, 29, 31, 33, 35, 37]), (100, []), (100, []), (100, []),
  (4, [48, 0, 49]), (100, []), (100, []),
  (8, [0, 0, 0, 51, 52, 53, 54, 55, 56, 57, 0, 0, 58, 59, 0, 0, 0, 60, 0, 0, 0, 61, 62, 63, 64, 65, 66, 0, 0]),
  (100, []), (100, []), (101, []), (100, []), (100, []), (100, []), (100, []), (100, []), (100, []), (100, []), (100, []), (100, []), (100, []), (100, []), (100, []), (100, [])]
def kdF (i : Nat) : Nat := match shT[i]? with
  | some q => q.1
  | none => 200
def rfF (i k : Nat) : Nat := match shT[i]? with
  | some q => q.2.getD k 0
  | none => 0
abbrev Nn : Type := Nat × Nat × Nat
/-- the lengths of the rows: n = (handles, cells, words) -/
def lnF (n : Nn) (i : Nat) : Nat := match i with
  | 2 => n.2.1
  | 3 => n.1 + 5
  | 4 => n.1 + 5
  | 5 => n.1
  | 40 => 1000
  | 42 => 960
  | 44 => n.2.2
  | 45 => n.2.2
  | 46 => n.2.2
  | 48 => n.2.2
  | 49 => 108
  | 51 => 15540
  | 52 => 37
  | 53 => 24
  | 54 => 24
  | 55 => 24
  | 56 => 8
  | 57 => 8
  | 58 => 1000
  | 59 => 970
  | 60 => 400
  | 61 => 220
  | 62 => 220
  | 63 => 220
  | 64 => 220
  | 65 => 220
  | 66 => 4000
  | _ => 130
def nfF (c : Nat) : Nat := match c with
  | 0 => 7
  | 1 => 7
  | 2 => 11
  | 3 => 2
  | 4 => 3
  | 5 => 2
  | 6 => 2
  | 7 => 10
  | 8 => 29
  | _ => 0
def tnF (c : Nat) : String := match c with
  | 0 => RX0
  | 1 => RX1
  | 2 => RX2
  | 3 => RX3
  | 4 => RX4
  | 5 => RX5
  | 6 => RX6
  | 7 => RX7
  | _ => RX8
def ttF (c : Nat) : u_T := match c with
  | 0 => TX0
  | 1 => TX1
  | 2 => TX2
  | 3 => TX3
  | 4 => TX4
  | 5 => TX5
  | 6 => TX6
  | 7 => TX7
  | _ => TX8
def tyF (c : Nat) : Nat → FieldType := match c with
  | 0 => tyX0
  | 1 => tyX1
  | 2 => tyX2
  | 3 => tyX3
  | 4 => tyX4
  | 5 => tyX5
  | 6 => tyX6
  | 7 => tyX7
  | _ => tyX8
def isRefT (t : FieldType) : Bool := match t with
  | .int => false
  | .boolean => false
  | _ => true
theorem shT_len : shT.length = 67 := rfl
theorem kdF_lt {i : Nat} (h : kdF i < 150) : i < 67 := by
  unfold kdF at h
  cases hq : shT[i]? with
  | none => rw [hq] at h; simp at h
  | some q =>
    have := (List.getElem?_eq_some_iff.mp hq).1
    rw [shT_len] at this
    exact this
/-- D, the classes of int and boolean rows, addresses, base, lengths -/
abbrev ZT : Type := va_G × ClassId × ClassId × (Nat → Nat) × Nat × Nn
def zA (Z : ZT) : Nat → Nat := Z.2.2.2.1
def zB (Z : ZT) : Nat → Prop := fun q => Z.2.2.2.2.1 ≤ q
def zN (Z : ZT) : Nn := Z.2.2.2.2.2
abbrev zT (Z : ZT) : List (ClassId × FieldType) := [(Z.2.1, .int), (Z.2.2.1, .boolean)]
def cvF (Z : ZT) (v : AV) : Value := match v with
  | .inl x => .int (Int32.ofInt x)
  | .inr (.inl x) => .long (Int64.ofInt x)
  | .inr (.inr o) => .ref (zA Z o)
def fldF (Z : ZT) (M : Mem) (i k : Nat) : Value := if isRefT (tyF (kdF i) k) then .ref (zA Z (rfF i k)) else .int (Int32.ofInt (M i k))
def cellF (Z : ZT) (M : Mem) (i : Nat) : va_E :=
  if kdF i = 100 then .inl (Z.2.1, lnF (zN Z) i, .inl (fun j => Int32.ofInt (M i j)))
  else if kdF i = 101 then .inl (Z.2.2.1, lnF (zN Z) i, .inl (fun j => Int32.ofInt (M i j)))
  else .inr (kdF i, (List.range (nfF (kdF i))).map (fldF Z M i))
def wldF (Z : ZT) (M : Mem) : va_W := (List.range 67).map (fun i => (zA Z i, cellF Z M i))
def up2 (M : Mem) (o k : Nat) (x : Int) : Mem := va_up M o (va_up (M o) k x)
theorem up2_o {M : Mem} {o k : Nat} {x : Int} : up2 M o k x o = va_up (M o) k x := by unfold up2 va_up; rw [if_pos rfl]
theorem up2_i {M : Mem} {o k i : Nat} {x : Int} (h : i ≠ o) : up2 M o k x i = M i := by unfold up2 va_up; rw [if_neg h]
theorem up2_s {M : Mem} {o k : Nat} {x : Int} : up2 M o k x o k = x := by rw [up2_o]; unfold va_up; rw [if_pos rfl]
theorem up2_k {M : Mem} {o k j : Nat} {x : Int} (h : j ≠ k) : up2 M o k x o j = M o j := by rw [up2_o]; unfold va_up; rw [if_neg h]
theorem wldF_at (Z : ZT) (M : Mem) {i : Nat} (h : i < 67) : (wldF Z M)[i]? = some (zA Z i, cellF Z M i) := by
  unfold wldF
  rw [List.getElem?_map, List.getElem?_range h]
  rfl
theorem cellF_i (Z : ZT) (M : Mem) {i : Nat} (h : kdF i = 100) : cellF Z M i = .inl (Z.2.1, lnF (zN Z) i, .inl (fun j => Int32.ofInt (M i j))) := by unfold cellF; rw [if_pos h]
theorem cellF_z (Z : ZT) (M : Mem) {i : Nat} (h : kdF i = 101) : cellF Z M i = .inl (Z.2.2.1, lnF (zN Z) i, .inl (fun j => Int32.ofInt (M i j))) := by unfold cellF; rw [if_neg (by omega), if_pos h]
theorem cellF_o (Z : ZT) (M : Mem) {i : Nat} (h : kdF i < 100) : cellF Z M i = .inr (kdF i, (List.range (nfF (kdF i))).map (fldF Z M i)) := by unfold cellF; rw [if_neg (by omega), if_neg (by omega)]
theorem wldF_set (Z : ZT) (M M' : Mem) {o : Nat} {e : va_E} (h : o < 67) (he : e = cellF Z M' o) (hM : ∀ i, i < 67 → i ≠ o → cellF Z M' i = cellF Z M i) : (wldF Z M).set o (zA Z o, e) = wldF Z M' := by
  apply List.ext_getElem?
  intro i
  rw [List.getElem?_set]
  by_cases hi : o = i
  · subst hi
    rw [if_pos rfl, wldF_at Z M' h]
    have : o < (wldF Z M).length := by unfold wldF; simpa using h
    rw [if_pos this, he]
  · rw [if_neg hi]
    by_cases h6 : i < 67
    · rw [wldF_at Z M h6, wldF_at Z M' h6, hM i h6 (fun e => hi e.symm)]
    · have a1 : (wldF Z M)[i]? = none := by unfold wldF; simpa using h6
      have a2 : (wldF Z M')[i]? = none := by unfold wldF; simpa using h6
      rw [a1, a2]
theorem cellF_congr (Z : ZT) {M M' : Mem} {i : Nat} (h : M' i = M i) : cellF Z M' i = cellF Z M i := by
  unfold cellF fldF
  rw [h]
theorem cellF_fld (Z : ZT) (M : Mem) {o k : Nat} (x : Int) (ho : kdF o < 100) (hk : k < nfF (kdF o)) (hr : isRefT (tyF (kdF o) k) = false) :
    (.inr (kdF o, ((List.range (nfF (kdF o))).map (fldF Z M o)).set k (.int (Int32.ofInt x))) : va_E) = cellF Z (up2 M o k x) o := by
  rw [cellF_o Z _ ho]
  congr 2
  apply List.ext_getElem?
  intro j
  rw [List.getElem?_set]
  by_cases hj : k = j
  · subst hj
    rw [if_pos rfl, if_pos (by simpa using hk), List.getElem?_map, List.getElem?_range hk]
    simp [fldF, hr, up2_s]
  · rw [if_neg hj, List.getElem?_map, List.getElem?_map]
    by_cases h6 : j < nfF (kdF o)
    · rw [List.getElem?_range h6]
      simp only [Option.map_some]
      congr 1
      unfold fldF
      rw [up2_k (fun e => hj e.symm)]
    · have a1 : (List.range (nfF (kdF o)))[j]? = none := by simpa using h6
      rw [a1]
      rfl
theorem cellF_row (Z : ZT) (M : Mem) {o k : Nat} (x : Int) (ho : kdF o = 100) :
    (.inl (Z.2.1, lnF (zN Z) o, .inl (upd (fun j => Int32.ofInt (M o j)) k (Int32.ofInt x))) : va_E) = cellF Z (up2 M o k x) o := by
  rw [cellF_i Z _ ho]
  congr 4
  funext j
  by_cases hj : j = k
  · subst hj
    simp [upd, up2_s]
  · rw [up2_k hj]
    simp [upd, hj]
theorem cellF_rowZ (Z : ZT) (M : Mem) {o k : Nat} (x : Int) (ho : kdF o = 101) :
    (.inl (Z.2.2.1, lnF (zN Z) o, .inl (upd (fun j => Int32.ofInt (M o j)) k (Int32.ofInt x))) : va_E) = cellF Z (up2 M o k x) o := by
  rw [cellF_z Z _ ho]
  congr 4
  funext j
  by_cases hj : j = k
  · subst hj
    simp [upd, up2_s]
  · rw [up2_k hj]
    simp [upd, hj]
/-- the addresses are apart, and new -/
def adOk (Z : ZT) : Prop := (∀ i j : Nat, i < 67 → j < 67 → zA Z i = zA Z j → i = j) ∧ ∀ i : Nat, i < 67 → zB Z (zA Z i)
theorem adOk.D {Z : ZT} (h : adOk Z) (M : Mem) : va_D (zB Z) (wldF Z M) := by
  have key : ∀ (i : Nat) (q : Nat × va_E), (wldF Z M)[i]? = some q → i < 67 ∧ q.1 = zA Z i := by
    intro i q hq
    by_cases h6 : i < 67
    · rw [wldF_at Z M h6] at hq
      cases hq
      exact ⟨h6, rfl⟩
    · have a1 : (wldF Z M)[i]? = none := by unfold wldF; simpa using h6
      rw [a1] at hq
      cases hq
  refine ⟨fun i j p q hi hj e => ?_, fun k q hk => ?_⟩
  · obtain ⟨a1, a2⟩ := key i p hi
    obtain ⟨b1, b2⟩ := key j q hj
    exact h.1 i j a1 b1 (by rw [← a2, ← b2]; exact e)
  · obtain ⟨a1, a2⟩ := key k q hk
    rw [a2]
    exact h.2 k a1
/-- what the tables know of the nine kinds of object -/
theorem kindF (c : Nat) (h : c < 9) : vwCl[c]? = some (tnF c, ttF c, nfF c) ∧ (∀ w ∈ u_ws (tnF c) (ttF c) (nfF c), w ∈ BIG) ∧ (∀ k, k < nfF c → parseFieldDescriptor (ttF c k).2.2.1 = some (tyF c k)) ∧ (∀ a, a < nfF c → ∀ b, b < nfF c → a ≠ b → (ttF c a).2.1 ≠ (ttF c b).2.1) := by
  match c, h with
  | 0, _ => exact ⟨rfl, bigU0, tyX0_ok, nmX0⟩
  | 1, _ => exact ⟨rfl, bigU1, tyX1_ok, nmX1⟩
  | 2, _ => exact ⟨rfl, bigU2, tyX2_ok, nmX2⟩
  | 3, _ => exact ⟨rfl, bigU3, tyX3_ok, nmX3⟩
  | 4, _ => exact ⟨rfl, bigU4, tyX4_ok, nmX4⟩
  | 5, _ => exact ⟨rfl, bigU5, tyX5_ok, nmX5⟩
  | 6, _ => exact ⟨rfl, bigU6, tyX6_ok, nmX6⟩
  | 7, _ => exact ⟨rfl, bigU7, tyX7_ok, nmX7⟩
  | 8, _ => exact ⟨rfl, bigU8, tyX8_ok, nmX8⟩
