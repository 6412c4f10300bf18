/-! ===== the reference: comes ===== -/
/-- a number of k limbs comes to handle d: the answer, the new tables, how often it slid -/
def comF (n1 c tk d : Nat) (pl rm : Nat → Int) (k : Nat) : Int × (Nat → Int) × (Nat → Int) × Int :=
  if (k : Int) ≤ rm d then ((k : Int), pl, (fun t => if t < n1 then rm t else 0), 0)
  else if (tkF n1 c tk pl rm k).1 = 0 then (-4, (tkF n1 c tk pl rm k).2.1, (tkF n1 c tk pl rm k).2.2.1, (tkF n1 c tk pl rm k).2.2.2.2)
  else ((k : Int), va_up (tkF n1 c tk pl rm k).2.1 d ((tkF n1 c tk pl rm k).2.1 (n1 + tk)), (fun t => if t < n1 then va_up (tkF n1 c tk pl rm k).2.2.1 d (k : Int) t else 0), (tkF n1 c tk pl rm k).2.2.2.2)
theorem tkF_cases {n1 c tk : Nat} {pl rm : Nat → Int} {k : Int} (hk : 0 < k) : ((tkF n1 c tk pl rm k).1 = 0 ∧ (tkF n1 c tk pl rm k).2.2.2.1 = 0) ∨ ((tkF n1 c tk pl rm k).1 = 1 ∧ (tkF n1 c tk pl rm k).2.2.2.1 = tk + 1 ∧ (tkF n1 c tk pl rm k).2.2.1 (n1 + tk) = k) := by
  unfold tkF
  rw [if_neg (by omega)]
  split
  · exact Or.inr ⟨rfl, rfl, va_up_self _ _ _⟩
  · split
    · exact Or.inr ⟨rfl, rfl, va_up_self _ _ _⟩
    · exact Or.inl ⟨rfl, rfl⟩
/-- the runs' cells, and of the numbers row d alone, may have changed -/
def FrC (M M' : Mem) (d : Nat) : Prop := (∀ o, o ≠ 50 → o ≠ 51 → o ≠ 52 → o ≠ 54 → o ≠ 55 → o ≠ 56 → o ≠ 57 → M' o = M o) ∧ (∀ j, j ≠ 10 → j ≠ 11 → M' 50 j = M 50 j) ∧ (∀ s, s ≠ d → M' 52 s = M 52 s) ∧ ∀ j, (j < 420 * d ∨ 420 * d + 420 ≤ j) → M' 51 j = M 51 j
theorem FrT.C {M M1 : Mem} {d : Nat} (h : FrT M M1) : FrC M M1 d := ⟨fun o a _ _ _ b c e => h.1 o a b c e, h.2, fun s _ => by rw [h.1 52 (by decide) (by decide) (by decide) (by decide)], fun j _ => by rw [h.1 51 (by decide) (by decide) (by decide) (by decide)]⟩
theorem FrC.tr {M M1 M2 : Mem} {d : Nat} (h : FrC M M1 d) (h2 : FrC M1 M2 d) : FrC M M2 d := ⟨fun o a b c e f g i => (h2.1 o a b c e f g i).trans (h.1 o a b c e f g i), fun j a b => (h2.2.1 j a b).trans (h.2.1 j a b), fun s a => (h2.2.2.1 s a).trans (h.2.2.1 s a), fun j a => (h2.2.2.2 j a).trans (h.2.2.2 j a)⟩
theorem FrM.C {M M1 : Mem} {d : Nat} (h : FrM M M1 d) : FrC M M1 d := ⟨fun o _ b c _ _ _ _ => h.1 o b c, fun j _ _ => by rw [h.1 50 (by decide) (by decide)], h.2.1, h.2.2⟩
/-- the runs are read from their own cells -/
theorem AgM.mov {n : Nn} {M M' : Mem} {pl rm : Nat → Int} {tk : Nat} (h : AgM n M pl rm tk) (hM : ∀ o, o ≠ 51 → o ≠ 52 → M' o = M o) : AgM n M' pl rm tk := by
  have e : ∀ o, o ≠ 51 → o ≠ 52 → M' o = M o := hM
  obtain ⟨hR, hd, ha⟩ := h
  have hr : rmM n M' = rmM n M := by
    funext t
    unfold rmM
    rw [e 50 (by decide) (by decide), e 53 (by decide) (by decide), e 54 (by decide) (by decide), e 57 (by decide) (by decide)]
  have hp : plM n M' = plM n M := by
    funext t
    unfold plM
    rw [e 55 (by decide) (by decide), e 56 (by decide) (by decide)]
  refine ⟨?_, hd, by rw [hr, hp]; exact ha⟩
  unfold RunM at *
  rw [hr, hp, e 50 (by decide) (by decide), e 53 (by decide) (by decide)]
  exact hR
/-- comes(a, d) -/
def c_comes : Call := ⟨Nn × Nat × (Nat → Int) × (Nat → Int) × Nat × Nat × Nat, 3, (fun (n, tk, pl, rm, a, d, v) vs M => vs = [.inr (.inr 50), .inl (a : Int), .inl (d : Int)] ∧ AgM n M pl rm tk ∧ tk ≤ 4 ∧ d < n.1 ∧ M 53 d = 1 ∧ a < 37 ∧ a ≠ d ∧ MH M a v ∧ nd v ≤ 400), .inr (fun (n, tk, pl, rm, _, d, v) _ M x M' => x = (comF n.1 n.2.1 tk d pl rm (nd v)).1 ∧ AgM n M' (comF n.1 n.2.1 tk d pl rm (nd v)).2.1 (comF n.1 n.2.1 tk d pl rm (nd v)).2.2.1 0 ∧ M' 50 11 = M 50 11 + (comF n.1 n.2.1 tk d pl rm (nd v)).2.2.2 ∧ FrC M M' d ∧ (x = -4 → M' 51 = M 51 ∧ M' 52 = M 52) ∧ (x ≠ -4 → MH M' d v))⟩
