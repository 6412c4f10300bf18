/-! ===== the reference: the tape ===== -/
abbrev TS : Type := Nat × (Nat → Int)
/-- the tape's bytes -/
def RT (M : Mem) (T : TS) : Prop := M 50 14 = (T.1 : Int) ∧ T.1 ≤ 1000 ∧ ∀ i, i < T.1 → M 58 i = T.2 i ∧ 0 ≤ T.2 i ∧ T.2 i < 256
def FTp (M M' : Mem) : Prop := (∀ o, o ≠ 50 → o ≠ 58 → M' o = M o) ∧ ∀ j, j ≠ 14 → M' 50 j = M 50 j
theorem FTp.rf (M : Mem) : FTp M M := ⟨fun _ _ _ => rfl, fun _ _ => rfl⟩
def sel5 (a b c d e : Int) (k : Nat) : Int := if k < 4 then a else if k < 8 then b else if k < 12 then c else if k < 16 then d else e
def byt (v : Int) (j : Nat) : Int := v / 2 ^ (24 - 8 * j) % 256
theorem byt_b (v : Int) (j : Nat) : 0 ≤ byt v j ∧ byt v j < 256 := by
  unfold byt
  generalize v / 2 ^ (24 - 8 * j) = x
  omega
def fedT (T : TS) (a b c d e : Int) (i : Nat) : Int := if i < T.1 then T.2 i else byt (sel5 a b c d e (i - T.1)) ((i - T.1) % 4)
def feF (T : TS) (a b c d e : Int) : Int × TS := if 980 < T.1 then (-1, T) else (((T.1 + 20 : Nat) : Int), (T.1 + 20, fedT T a b c d e))
def c_feed : Call := ⟨TS × Int × Int × Int × Int × Int, 6, (fun (T, a, b, c, d, e) vs M => vs = [.inr (.inr 50), .inl a, .inl b, .inl c, .inl d, .inl e] ∧ inR a ∧ inR b ∧ inR c ∧ inR d ∧ inR e ∧ RT M T), .inr (fun (T, a, b, c, d, e) _ M x M' => x = (feF T a b c d e).1 ∧ RT M' (feF T a b c d e).2 ∧ FTp M M')⟩
theorem v_feed (n0 : Nn) : Ver tX8_feed (fdX8, icX8, lcX8, []) 1 8 n0 c_feed := by
  rintro ⟨T, a, b, c, d, e⟩ vs M0 ⟨rfl, ia, ib, ic, id, ie, hc, hm, hT⟩ aw run
  have l58 : lnF n0 58 = 1000 := rfl
  change aw 0 [some (.inr (.inr 50)), some (.inl a), some (.inl b), some (.inl c), some (.inl d), some (.inl e), none, none] [] M0
  refine run 60 [18] _ _ _ _ ?_
  refine And.intro rfl ?_
  by_cases h9 : 980 < T.1
  · have e1 : feF T a b c d e = (-1, T) := if_pos h9
    refine And.intro ⟨⟨by omega, by omega⟩, ⟨by omega, by omega⟩⟩ (And.intro (fun c1 => absurd c1 (by omega)) (fun _ => ?_))
    refine Or.inl ?_
    show -1 = (feF T a b c d e).1 ∧ RT M0 (feF T a b c d e).2 ∧ FTp M0 M0
    rw [e1]
    exact ⟨rfl, ⟨hc, hm, hT⟩, FTp.rf _⟩
  have e1 : feF T a b c d e = (((T.1 + 20 : Nat) : Int), (T.1 + 20, fedT T a b c d e)) := if_neg h9
  refine And.intro ⟨⟨by omega, by omega⟩, ⟨by omega, by omega⟩⟩ (And.intro (fun _ => ?_) (fun c2 => absurd c2 (by omega)))
  have loop : ∀ (r k : Nat) (M : Mem) (o7 : Option AV), k + r = 20 → M 50 14 = ((T.1 + k : Nat) : Int) → (∀ i, i < T.1 + k → M 58 i = fedT T a b c d e i) → FTp M0 M → aw 18 [some (.inr (.inr 50)), some (.inl a), some (.inl b), some (.inl c), some (.inl d), some (.inl e), some (.inl (k : Int)), o7] [] M := by
    intro r
    induction r with
    | zero =>
      intro k M o7 hk h14 hB hF
      obtain rfl : k = 20 := by omega
      refine run 60 [18] _ _ _ _ ?_
      refine And.intro ⟨⟨by omega, by omega⟩, ⟨by omega, by omega⟩⟩ (And.intro (fun _ => ?_) (fun c2 => absurd c2 (by omega)))
      refine And.intro rfl (Or.inl ?_)
      show M 50 14 = (feF T a b c d e).1 ∧ RT M (feF T a b c d e).2 ∧ FTp M0 M
      rw [e1]
      refine ⟨h14, ⟨h14, by show T.1 + 20 ≤ 1000; omega, fun i hi => ⟨hB i hi, ?_⟩⟩, hF⟩
      show 0 ≤ fedT T a b c d e i ∧ fedT T a b c d e i < 256
      unfold fedT
      split
      · rename_i hi2
        exact (hT i hi2).2
      · exact byt_b _ _
    | succ r ih =>
      intro k M o7 hk h14 hB hF
      have go : ∀ v, inR v → v = sel5 a b c d e k → aw 71 [some (.inr (.inr 50)), some (.inl a), some (.inl b), some (.inl c), some (.inl d), some (.inl e), some (.inl (k : Int)), o7] [.inl v] M := by
        intro v iv ev
        refine run 60 [18] _ _ _ _ ?_
        refine And.intro rfl (And.intro rfl (And.intro ⟨by omega, by omega, ⟨by omega, by omega⟩, ⟨by omega, by omega⟩⟩ (And.intro ⟨iv, by omega, by omega⟩ ?_)))
        have eb : bAnd (v / 2 ^ (24 - 8 * ((k : Int) % 4)).toNat) 255 = byt v (k % 4) := by
          rw [bAnd_8, show (24 - 8 * ((k : Int) % 4)).toNat = 24 - 8 * (k % 4) by omega]
          rfl
        conv => whnf
        rw [h14, eb, Int.toNat_natCast]
        refine And.intro ⟨rfl, by omega, by omega⟩ (And.intro rfl (And.intro rfl (And.intro ?_ trivial)))
        refine ih (k + 1) _ _ (by omega) ?_ (fun i hi => ?_) ?_
        · rw [up2_s, up2_i (by decide), h14]
          omega
        · rw [up2_i (by decide)]
          by_cases ci : i = T.1 + k
          · rw [ci, up2_s]
            unfold fedT
            rw [if_neg (by omega), show T.1 + k - T.1 = k by omega, ev]
          · rw [up2_k ci]
            exact hB i (by omega)
        · refine ⟨fun o x1 x2 => ?_, fun j x1 => ?_⟩
          · rw [up2_i x1, up2_i x2]
            exact hF.1 o x1 x2
          · rw [up2_k x1, up2_i (by decide)]
            exact hF.2 j x1
      refine run 60 [18, 71] _ _ _ _ ?_
      refine And.intro ⟨⟨by omega, by omega⟩, ⟨by omega, by omega⟩⟩ (And.intro (fun c1 => absurd c1 (by omega)) (fun _ => ?_))
      by_cases k1 : k < 4
      · refine And.intro ⟨⟨by omega, by omega⟩, ⟨by omega, by omega⟩⟩ (And.intro (fun c1 => absurd c1 (by omega)) (fun _ => ?_))
        exact And.intro (go a ia (by unfold sel5; rw [if_pos k1])) trivial
      refine And.intro ⟨⟨by omega, by omega⟩, ⟨by omega, by omega⟩⟩ (And.intro (fun _ => ?_) (fun c2 => absurd c2 (by omega)))
      by_cases k2 : k < 8
      · refine And.intro ⟨⟨by omega, by omega⟩, ⟨by omega, by omega⟩⟩ (And.intro (fun c1 => absurd c1 (by omega)) (fun _ => ?_))
        exact And.intro (go b ib (by unfold sel5; rw [if_neg k1, if_pos k2])) trivial
      refine And.intro ⟨⟨by omega, by omega⟩, ⟨by omega, by omega⟩⟩ (And.intro (fun _ => ?_) (fun c2 => absurd c2 (by omega)))
      by_cases k3 : k < 12
      · refine And.intro ⟨⟨by omega, by omega⟩, ⟨by omega, by omega⟩⟩ (And.intro (fun c1 => absurd c1 (by omega)) (fun _ => ?_))
        exact And.intro (go c ic (by unfold sel5; rw [if_neg k1, if_neg k2, if_pos k3])) trivial
      refine And.intro ⟨⟨by omega, by omega⟩, ⟨by omega, by omega⟩⟩ (And.intro (fun _ => ?_) (fun c2 => absurd c2 (by omega)))
      by_cases k4 : k < 16
      · refine And.intro ⟨⟨by omega, by omega⟩, ⟨by omega, by omega⟩⟩ (And.intro (fun c1 => absurd c1 (by omega)) (fun _ => ?_))
        exact And.intro (go d id (by unfold sel5; rw [if_neg k1, if_neg k2, if_neg k3, if_pos k4])) trivial
      refine And.intro ⟨⟨by omega, by omega⟩, ⟨by omega, by omega⟩⟩ (And.intro (fun _ => ?_) (fun c2 => absurd c2 (by omega)))
      exact And.intro (go e ie (by unfold sel5; rw [if_neg k1, if_neg k2, if_neg k3, if_neg k4])) trivial
  refine And.intro (loop 20 0 M0 none (by omega) (by rw [hc]; rfl) (fun i hi => ?_) (FTp.rf _)) trivial
  unfold fedT
  rw [if_pos (by omega)]
  exact (hT i (by omega)).1
theorem imX8_feed {l : Launch} {Z : ZT} (hZ : ZOk Z) : Impl l Z yX8_feed cX8_feed 8 (some .int) 1 c_feed := mkImpl (rt := 1) (CL := []) hZ.1 hZ.2.1 (by decide +kernel) kX8_feed fwX8 iwX8 lwX8 trivial (Nat.le_of_ble_eq_true rfl) (fun q h => absurd h List.not_mem_nil) ((v_feed _))
def ndF (T : TS) (k : Int) : Int × TS := if 0 ≤ k ∧ k ≤ (T.1 : Int) then (1, (k.toNat, T.2)) else (0, T)
def c_end_ : Call := ⟨TS × Int, 2, (fun (T, k) vs M => vs = [.inr (.inr 50), .inl k] ∧ inR k ∧ RT M T), .inr (fun (T, k) _ M x M' => x = (ndF T k).1 ∧ RT M' (ndF T k).2 ∧ FTp M M')⟩
theorem v_end_ (n0 : Nn) : Ver tX8_end_ (fdX8, icX8, lcX8, [(127, none, c_isIn)]) 2 2 n0 c_end_ := by
  rintro ⟨T, k⟩ vs M0 ⟨rfl, ik, hc, hm, hT⟩ aw run
  change aw 0 [some (.inr (.inr 50)), some (.inl k)] [] M0
  refine run 60 [] _ _ _ _ ?_
  refine And.intro rfl ⟨(k, 0, M0 50 14), ⟨rfl, ik, ⟨by omega, by omega⟩, ⟨by omega, by omega⟩⟩, ?_⟩
  rintro x M0 ⟨rfl, rfl⟩
  by_cases hin : 0 ≤ k ∧ k ≤ M0 50 14
  · rw [if_pos hin]
    have e1 : ndF T k = (1, (k.toNat, T.2)) := if_pos (by omega)
    refine And.intro ⟨⟨by omega, by omega⟩, ⟨by omega, by omega⟩⟩ (And.intro (fun _ => ?_) (fun c2 => absurd c2 (by omega)))
    refine And.intro rfl (And.intro (Or.inr rfl) (Or.inl ?_))
    show 1 = (ndF T k).1 ∧ RT (up2 M0 50 14 k) (ndF T k).2 ∧ FTp M0 (up2 M0 50 14 k)
    rw [e1]
    refine ⟨rfl, ⟨?_, by show k.toNat ≤ 1000; omega, fun i hi => ?_⟩, ⟨fun o x1 x2 => up2_i x1, fun j x1 => up2_k x1⟩⟩
    · rw [up2_s]
      show k = (k.toNat : Int)
      omega
    · rw [up2_i (by decide)]
      exact hT i (by have : i < k.toNat := hi; omega)
  · rw [if_neg hin]
    have e1 : ndF T k = (0, T) := if_neg (by omega)
    refine And.intro ⟨⟨by omega, by omega⟩, ⟨by omega, by omega⟩⟩ (And.intro (fun c1 => absurd c1 (by omega)) (fun _ => ?_))
    refine And.intro (Or.inl rfl) (Or.inl ?_)
    show 0 = (ndF T k).1 ∧ RT M0 (ndF T k).2 ∧ FTp M0 M0
    rw [e1]
    exact ⟨rfl, ⟨hc, hm, hT⟩, FTp.rf _⟩
theorem imX8_end_ {l : Launch} {Z : ZT} (hZ : ZOk Z) : Impl l Z yX8_end_ cX8_end_ 2 (some .boolean) 2 c_end_ := mkImpl (rt := 2) (CL := [(127, none, c_isIn)]) hZ.1 hZ.2.1 (by decide +kernel) kX8_end_ fwX8 iwX8 lwX8 trivial (Nat.le_of_ble_eq_true rfl) (List.forall_mem_cons.mpr ⟨gX8_127 hZ (by decide), fun q h => absurd h List.not_mem_nil⟩) ((v_end_ _))
