/-! ===== the reference: leaves ===== -/
def c_isIn : Call := (3, (fun vs _ => match vs with
  | [.inl v, .inl a, .inl b] => inR v ∧ inR a ∧ inR b
  | _ => False), .inr (fun vs M x M' => match vs with
  | [.inl v, .inl a, .inl b] => x = (if a ≤ v ∧ v ≤ b then 1 else 0) ∧ M' = M
  | _ => False))
theorem v_isIn (n : Nn) : Ver tX8_isIn (fdX8, icX8, lcX8, []) 2 3 n c_isIn := by
  intro vs M0 hlen hpre aw run
  match vs, hpre with
  | [.inl v, .inl a, .inl b], ⟨hv, ha, hb⟩ =>
  unfold inR at hv ha hb
  refine run 20 [] _ _ _ _ ?_
  repeat' first | intro h | refine And.intro ?_ ?_
  all_goals first | omega | rfl
def c_at : Call := (3, (fun vs M => match vs with
  | [.inr (.inr o), .inl s, .inl i] => o = 50 ∧ 0 ≤ s ∧ s < 37 ∧ inR i ∧ 0 ≤ M 52 s.toNat ∧ M 52 s.toNat ≤ 420
  | _ => False), .inr (fun vs M x M' => match vs with
  | [_, .inl s, .inl i] => x = (if i < 0 ∨ M 52 s.toNat ≤ i then 0 else M 51 (420 * s + i).toNat) ∧ M' = M
  | _ => False))
theorem v_at (n : Nn) : Ver tX8_at (fdX8, icX8, lcX8, []) 1 3 n c_at := by
  intro vs M0 hlen hpre aw run
  match vs, hpre with
  | [.inr (.inr o), .inl s, .inl i], ⟨ho, hs, hs2, hi, h1, h2⟩ =>
  subst ho
  unfold inR at hi
  refine run 30 [] _ _ _ _ ?_
  repeat' first | intro h | refine And.intro ?_ ?_
  all_goals first | omega | (simp only [lnF]; omega) | rfl | trivial | skip
  done
