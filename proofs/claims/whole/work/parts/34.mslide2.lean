/-! ===== the reference: slide ===== -/
theorem rmM_same {n : Nn} {M M' : Mem} (h50 : M' 50 10 = M 50 10) (h53 : M' 53 = M 53) (h54 : M' 54 = M 54) (h57 : M' 57 = M 57) (t : Nat) : rmM n M' t = rmM n M t := by
  unfold rmM
  rw [h50, h53, h54, h57]
set_option maxHeartbeats 4000000 in
theorem v_slide (n0 : Nn) : Ver tX8_slide (fdX8, icX8, lcX8, []) 0 5 n0 c_slide := by
  rintro ⟨n, tk⟩ vs M0 ⟨rfl, hR, hDj⟩ aw run
  have hR0 := hR
  obtain ⟨b1, b2, b3, b4, b5, b6, b7, b8, b9, b10⟩ := hR
  have l53 : lnF n0 53 = 24 := rfl
  have l54 : lnF n0 54 = 24 := rfl
  have l55 : lnF n0 55 = 24 := rfl
  have l56 : lnF n0 56 = 8 := rfl
  have l57 : lnF n0 57 = 8 := rfl
  obtain ⟨M1, eM1⟩ : ∃ M1 : Mem, M1 = up2 M0 50 11 (M0 50 11 + 1) := ⟨_, rfl⟩
  obtain ⟨pl, epl⟩ : ∃ pl : Nat → Int, pl = plM n M0 := ⟨_, rfl⟩
  obtain ⟨rm, erm⟩ : ∃ rm : Nat → Int, rm = rmM n M0 := ⟨_, rfl⟩
  rw [← epl, ← erm] at hDj
  -- what the runs are
  have rin : ∀ t, t < n.1 + 5 → 0 < rm t → 0 ≤ pl t ∧ pl t + rm t ≤ (n.2.1 : Int) := by
    intro t ht hr
    rw [erm] at hr
    by_cases hlive : t < n.1 ∧ M0 53 t ≠ 1
    · rw [hR0.free hlive.1 hlive.2] at hr; omega
    · by_cases htk : t < n.1 + tk
      · have := b10 t htk (fun q => by
          rcases b9 t q with e | e
          · exact absurd ⟨q, by omega⟩ hlive
          · exact e)
        rw [epl, erm]
        exact ⟨this.2.1, this.2.2⟩
      · rw [hR0.none (by omega)] at hr; omega
  have kn : ∀ M : Mem, (∀ o, o ≠ 55 → o ≠ 56 → M o = M1 o) → M 50 0 = (n.1 : Int) ∧ M 50 1 = (n.2.1 : Int) ∧ M 50 10 = (tk : Int) ∧ M 53 = M0 53 ∧ M 54 = M0 54 ∧ M 57 = M0 57 := by
    intro M hM
    rw [hM 50 (by decide) (by decide), hM 53 (by decide) (by decide), hM 54 (by decide) (by decide), hM 57 (by decide) (by decide), eM1]
    refine ⟨?_, ?_, ?_, up2_i (by decide), up2_i (by decide), up2_i (by decide)⟩
    · rw [up2_k (by decide)]; exact b5
    · rw [up2_k (by decide)]; exact b6
    · rw [up2_k (by decide)]; exact b7
  have at_x : ∀ (M : Mem) (x y : Int) (t : Nat), SlI n M1 M pl rm x y → t < n.1 + 5 → 0 < rm t → (plM n M t = x ↔ pl t = x) := by
    intro M x y t h ht hr
    by_cases hp : pl t < x
    · have := h.2.2.1 t ht hr hp
      omega
    · rw [h.2.1 t ht (fun q => hp q.2)]
  have outer : ∀ (f : Nat) (x y : Int) (M : Mem) (o3 o4 : Option AV), SlI n M1 M pl rm x y → x ≤ (n.2.1 : Int) → (n.2.1 : Int) ≤ x + f → aw 14 [some (.inr (.inr 50)), some (.inl y), some (.inl x), o3, o4] [] M := by
    intro f
    induction f with
    | zero =>
      intro x y M o3 o4 hS hx hf
      obtain ⟨k0, k1, k2, k3, k4, k5⟩ := kn M hS.1
      have h5 := hS.2.2.2.2.1
      have h6 := hS.2.2.2.2.2
      refine run 40 [14] _ _ _ _ ?_
      repeat' first | intro h | refine And.intro ?_ ?_
      all_goals first | omega | rfl | trivial | skip
      refine Or.inl ?_
      obtain rfl : x = (n.2.1 : Int) := by omega
      have := hS.2.2.2.1
      rw [this, epl, erm, eM1] at hS
      exact hS
    | succ f ih =>
      intro x y M o3 o4 hS hx hf
      obtain ⟨k0, k1, k2, k3, k4, k5⟩ := kn M hS.1
      have h5 := hS.2.2.2.2.1
      have h6 := hS.2.2.2.2.2
      have found2 : ∀ (x' y' : Int) (M2 : Mem) (t : Nat), SlI n M1 M2 pl rm x' y' → x' ≤ (n.2.1 : Int) → x < x' → t ≤ 8 → aw 103 [some (.inr (.inr 50)), some (.inl y'), some (.inl x'), some (.inl 1), some (.inl (t : Int))] [] M2 := by
        intro x' y' M2 t hS2 hx2 hxx ht
        obtain ⟨q0, q1, q2, q3, q4, q5⟩ := kn M2 hS2.1
        have fin := ih x' y' M2 (some (.inl 1)) (some (.inl (t : Int))) hS2 hx2 (by omega)
        refine run 60 [14] _ _ _ _ ?_
        repeat' first | intro h | refine And.intro ?_ ?_
        all_goals first | omega | rfl | trivial | skip
        all_goals rw [Int.add_zero]
        all_goals exact fin
      have found1 : ∀ (x' y' : Int) (M2 : Mem) (t : Nat), SlI n M1 M2 pl rm x' y' → x' ≤ (n.2.1 : Int) → x < x' → t ≤ 25 → aw 27 [some (.inr (.inr 50)), some (.inl y'), some (.inl x'), some (.inl 1), some (.inl (t : Int))] [] M2 := by
        intro x' y' M2 t hS2 hx2 hxx ht
        obtain ⟨q0, q1, q2, q3, q4, q5⟩ := kn M2 hS2.1
        refine run 60 [14, 103] _ _ _ _ ?_
        repeat' first | intro h | refine And.intro ?_ ?_
        all_goals first | omega | rfl | trivial | skip
        all_goals exact found2 x' y' M2 0 hS2 hx2 hxx (by omega)
      have inner2 : ∀ (r t : Nat), t + r = tk → (∀ u, u < n.1 + t → 0 < rm u → pl u ≠ x) → x < (n.2.1 : Int) → aw 103 [some (.inr (.inr 50)), some (.inl y), some (.inl x), some (.inl 0), some (.inl (t : Int))] [] M := by
        intro r
        induction r with
        | zero =>
          intro t ht hno hxc
          have hsk := hS.skip (fun u hu hr => by
            by_cases hu2 : u < n.1 + tk
            · exact hno u (by omega) hr
            · rw [erm, hR0.none (by omega)] at hr; omega)
          have fin := ih (x + 1) y M (some (.inl 0)) (some (.inl (t : Int))) hsk (by omega) (by omega)
          refine run 60 [14] _ _ _ _ ?_
          repeat' first | intro h | refine And.intro ?_ ?_
          all_goals first | omega | rfl | trivial | skip
        | succ r ihr =>
          intro t ht hno hxc
          have e1 : rm (n.1 + t) = M0 57 t := by
            rw [erm]
            unfold rmM
            rw [if_neg (by omega), if_pos (by omega), show n.1 + t - n.1 = t by omega]
          have e2 : plM n M (n.1 + t) = M 56 t := by
            unfold plM
            rw [if_neg (by omega), show n.1 + t - n.1 = t by omega]
          have h10 := b10 (n.1 + t) (by omega) (fun q => by omega)
          rw [← erm, ← epl, e1] at h10
          have hax := at_x M x y (n.1 + t) hS (by omega) (by omega)
          rw [e2] at hax
          have hrg := rin (n.1 + t) (by omega) (by omega)
          have hpl : -2147483648 ≤ M 56 t ∧ M 56 t < 2147483648 := by
            rw [← e2]
            by_cases hp : pl (n.1 + t) < x
            · have q := hS.2.2.1 (n.1 + t) (by omega) (by omega) hp
              have q2 := sumB_nn (pl := pl) (rm := rm) (k := n.1 + 5) (x := pl (n.1 + t))
              omega
            · rw [hS.2.1 (n.1 + t) (by omega) (fun q => hp q.2)]
              omega
          have nxt : pl (n.1 + t) ≠ x → aw 103 [some (.inr (.inr 50)), some (.inl y), some (.inl x), some (.inl 0), some (.inl ((t + 1 : Nat) : Int))] [] M := fun hne => ihr (t + 1) (by omega) (fun u hu hr => by
            by_cases e : u = n.1 + t
            · subst e; exact hne
            · exact hno u (by omega) hr) hxc
          have mv : pl (n.1 + t) = x → SlI n M1 (up2 M 56 t y) pl rm (x + M0 57 t) (y + M0 57 t) := by
            intro hp
            have := hS.move (t := n.1 + t) (M2 := up2 M 56 t y) hDj (by omega) (by omega) hp (fun o _ b => up2_i b) ?_ ?_
            · rw [e1] at this; exact this
            · unfold plM
              rw [if_neg (by omega), show n.1 + t - n.1 = t by omega, up2_s]
            · intro u hu hne
              unfold plM
              split
              · rw [up2_i (by decide)]
              · rw [up2_k (by omega)]
          refine run 60 [14, 103] _ _ _ _ ?_
          repeat' first | intro h | refine And.intro ?_ ?_
          all_goals try simp only [Int.toNat_natCast] at *
          all_goals first | omega | rfl | trivial | skip
          · rename_i _ hx1
            rw [up2_i (by decide), k5]
            exact found2 (x + M0 57 t) (y + M0 57 t) _ (t + 1) (mv (hax.mp hx1)) (by have := hax.mp hx1; omega) (by omega) (by omega)
          · rename_i _ hx1
            exact nxt (fun e => hx1 (hax.mpr e))
      have inner1 : ∀ (r t : Nat), t + r = n.1 → (∀ u, u < t → 0 < rm u → pl u ≠ x) → x < (n.2.1 : Int) → aw 27 [some (.inr (.inr 50)), some (.inl y), some (.inl x), some (.inl 0), some (.inl (t : Int))] [] M := by
        intro r
        induction r with
        | zero =>
          intro t ht hno hxc
          refine run 60 [14, 103] _ _ _ _ ?_
          repeat' first | intro h | refine And.intro ?_ ?_
          all_goals first | omega | rfl | trivial | skip
          exact inner2 tk 0 (by omega) (fun u hu => hno u (by omega)) hxc
        | succ r ihr =>
          intro t ht hno hxc
          have e1 : rm t = if M0 53 t = 1 then M0 54 t else 0 := by
            rw [erm]
            unfold rmM
            rw [if_pos (by omega)]
          have e2 : plM n M t = M 55 t := by
            unfold plM
            rw [if_pos (by omega)]
          have h9 := b9 t (by omega)
          have nxt : (0 < rm t → pl t ≠ x) → aw 27 [some (.inr (.inr 50)), some (.inl y), some (.inl x), some (.inl 0), some (.inl ((t + 1 : Nat) : Int))] [] M := fun hne => ihr (t + 1) (by omega) (fun u hu hr => by
            by_cases e : u = t
            · subst e; exact hne hr
            · exact hno u (by omega) hr) hxc
          by_cases hlv : M0 53 t = 1
          · rw [if_pos hlv] at e1
            have h10 := b10 t (by omega) (fun _ => hlv)
            rw [← erm, ← epl, e1] at h10
            have hax := at_x M x y t hS (by omega) (by omega)
            rw [e2] at hax
            have hpl : -2147483648 ≤ M 55 t ∧ M 55 t < 2147483648 := by
              rw [← e2]
              by_cases hp : pl t < x
              · have q := hS.2.2.1 t (by omega) (by omega) hp
                have q2 := sumB_nn (pl := pl) (rm := rm) (k := n.1 + 5) (x := pl t)
                omega
              · rw [hS.2.1 t (by omega) (fun q => hp q.2)]
                omega
            have mv : pl t = x → SlI n M1 (up2 M 55 t y) pl rm (x + M0 54 t) (y + M0 54 t) := by
              intro hp
              have := hS.move (t := t) (M2 := up2 M 55 t y) hDj (by omega) (by omega) hp (fun o a _ => up2_i a) ?_ ?_
              · rw [e1] at this; exact this
              · unfold plM
                rw [if_pos (by omega), up2_s]
              · intro u hu hne
                unfold plM
                split
                · rw [up2_k (by omega)]
                · rw [up2_i (by decide)]
            have hlv2 : M 53 t = 1 := by rw [k3]; exact hlv
            refine run 60 [14, 27, 103] _ _ _ _ ?_
            repeat' first | intro h | refine And.intro ?_ ?_
            all_goals try simp only [Int.toNat_natCast] at *
            all_goals first | omega | rfl | trivial | skip
            · rename_i _ hx1
              rw [up2_i (by decide), k4]
              exact found1 (x + M0 54 t) (y + M0 54 t) _ (t + 1) (mv (hax.mp hx1)) (by have := hax.mp hx1; omega) (by omega) (by omega)
            · rename_i _ hx1
              exact nxt (fun _ e => hx1 (hax.mpr e))
          · rw [if_neg hlv] at e1
            have hlv2 : M 53 t = 0 := by rw [k3]; omega
            refine run 60 [14, 27, 103] _ _ _ _ ?_
            repeat' first | intro h | refine And.intro ?_ ?_
            all_goals try simp only [Int.toNat_natCast] at *
            all_goals first | omega | rfl | trivial | skip
            all_goals exact nxt (fun h => by omega)
      refine run 40 [14, 27] _ _ _ _ ?_
      repeat' first | intro h | refine And.intro ?_ ?_
      all_goals first | omega | rfl | trivial | skip
      · refine Or.inl ?_
        obtain rfl : x = (n.2.1 : Int) := by omega
        have := hS.2.2.2.1
        rw [this, epl, erm, eM1] at hS
        exact hS
      · exact inner1 n.1 0 (by omega) (fun u hu => by omega) (by omega)
  change aw 0 [some (.inr (.inr 50)), none, none, none, none] [] M0
  refine run 40 [14] _ _ _ _ ?_
  repeat' first | intro h | refine And.intro ?_ ?_
  all_goals first | omega | rfl | trivial | skip
  rw [← eM1]
  refine outer n.2.1 0 0 M1 none none ⟨fun _ _ _ => rfl, fun t ht hn => ?_, fun t ht hr hp => ?_, ?_, by omega, by omega⟩ (by omega) (by omega)
  · rw [epl, eM1]
    unfold plM
    rw [up2_i (by decide), up2_i (by decide)]
  · have := rin t ht hr
    omega
  · exact (sumB_0 (fun u hu hr => (rin u hu hr).1)).symm
theorem imX8_slide {l : Launch} {Z : ZT} (hZ : ZOk Z) : Impl l Z yX8_slide cX8_slide 5 none 1 c_slide := mkImpl (rt := 0) (CL := []) hZ.1 hZ.2.1 (by decide +kernel) kX8_slide fwX8 iwX8 lwX8 trivial (Nat.le_of_ble_eq_true rfl) (fun q h => absurd h List.not_mem_nil) ((v_slide _))
theorem gX8_124 {l : Launch} {Z : ZT} (hZ : ZOk Z) {d : Nat} (hd : 2 ≤ d) : CallI l Z RX8 d (124, some 8, c_slide) := fun p e s m args below meth c Q cc nL x0 X => callOk_V X (imX8_slide hZ) (by decide) rfl mlX8_124 iw_yX8_slide vw_yX8_slide nw_RX8 cw_yX8_slide ⟨by decide +kernel, by decide +kernel, by decide +kernel⟩ ⟨hd, by decide⟩
