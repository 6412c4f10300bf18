/-! ===== the reference: check ===== -/
theorem RN.ag {n : Nn} {M M' : Mem} {tk : Nat} {q : RS} (R : RN n M tk q) (h1 : ∀ o, 51 ≤ o → o ≤ 57 → M' o = M o) (h2 : ∀ j, j ≤ 1 ∨ j = 10 ∨ j = 11 → M' 50 j = M 50 j) : RN n M' tk q := by
  obtain ⟨⟨hR, hd, ha⟩, hs, hn, hv⟩ := R
  have hr : rmM n M' = rmM n M := by
    funext t
    unfold rmM
    rw [h2 10 (by omega), h1 53 (by omega) (by omega), h1 54 (by omega) (by omega), h1 57 (by omega) (by omega)]
  have hp : plM n M' = plM n M := by
    funext t
    unfold plM
    rw [h1 55 (by omega) (by omega), h1 56 (by omega) (by omega)]
  refine ⟨⟨?_, hd, by rw [hr, hp]; exact ha⟩, by rw [h2 11 (by omega)]; exact hs, hn, fun t a b => (hv t a b).ft (h1 51 (by omega) (by omega)) (h1 52 (by omega) (by omega))⟩
  unfold RunM at *
  rw [hr, hp, h2 0 (by omega), h2 1 (by omega), h2 10 (by omega), h1 53 (by omega) (by omega)]
  exact hR
/-- all runs are slid together -/
def sldR (n : Nn) (q : RS) : RS := (slP q.1 q.2.1 (n.1 + 5), q.2.1, q.2.2.1 + 1, q.2.2.2)
theorem AgM.dj {n : Nn} {M : Mem} {pl rm : Nat → Int} {tk : Nat} (h : AgM n M pl rm tk) : Dj (plM n M) (rmM n M) (n.1 + 5) := by
  obtain ⟨_, hd, ha⟩ := h
  intro t u ht hu hne h1 h2
  have e1 := ha t ht
  have e2 := ha u hu
  have h1' : 0 < rm t := by rw [← e1.1]; exact h1
  have h2' : 0 < rm u := by rw [← e2.1]; exact h2
  rw [e1.1, e2.1, e1.2 h1', e2.2 h2']
  exact hd t u ht hu hne h1' h2'
theorem RN.slid {n : Nn} {M M' : Mem} {tk : Nat} {q : RS} {y : Int} (R : RN n M tk q) (hS : SlI n (up2 M 50 11 (M 50 11 + 1)) M' (plM n M) (rmM n M) (n.2.1 : Int) y) : RN n M' tk (sldR n q) ∧ FrT M M' := by
  obtain ⟨h1, h2, h3⟩ := R.1.slid hS
  exact ⟨⟨h1, by rw [h3, R.2.1]; rfl, R.2.2.1, fun t a b => h2.mh (R.2.2.2 t a b)⟩, h2⟩
def AllG (W : WS) (v : Nat) : Prop := nvW W 0 = v ∧ ∀ k d, (rowF W).2[k]? = some d → GoodN W (rowF W).2 k d
abbrev rowO (W : WS) : Prop := (rowF W).1 ≠ 0 ∧ (rowF W).1 = W.1
abbrev fitO (n : Nn) (q : RS) (h : Int) : Prop := mxE (sldR n q).1 q.2.1 (n.1 + 5) + 6 * (nd (q.2.2.2 h.toNat) : Int) + 6 ≤ (n.2.1 : Int)
def chkS (n : Nn) (q : RS) (W : WS) (h : Int) : RS × WS := if Lv n q h then (if rowO W then (sldR n q, (0, W.2)) else (q, (0, W.2))) else (q, W)
def CkA (n : Nn) (q : RS) (W : WS) (h x : Int) : Prop := if Lv n q h then (if rowO W then (if fitO n q h then ((x = 0 ∧ AllG W (q.2.2.2 h.toNat)) ∨ (x = 1 ∧ ¬ AllG W (q.2.2.2 h.toNat))) else x = -4) else x = 2) else x = -2
def FCk (M M' : Mem) : Prop := (∀ o, o < 50 ∨ 65 < o ∨ (57 < o ∧ o < 61) → M' o = M o) ∧ ∀ j, j ≠ 10 → j ≠ 11 → j ≠ 18 → j ≠ 19 → j ≠ 20 → M' 50 j = M 50 j
theorem FCk.tr {M M1 M2 : Mem} (h : FCk M M1) (h2 : FCk M1 M2) : FCk M M2 := ⟨fun o a => (h2.1 o a).trans (h.1 o a), fun j a b c d e => (h2.2 j a b c d e).trans (h.2 j a b c d e)⟩
theorem FRw.K {M M' : Mem} (h : FRw M M') : FCk M M' := ⟨fun o a => h.1 o (by omega), fun j _ _ _ a b => h.2 j a b⟩
theorem FN.K {M M' : Mem} (h : FN M M') : FCk M M' := ⟨fun o a => h.1 o (by omega), fun j a b _ _ _ => h.2 j a b⟩
def c_check : Call := ⟨Nn × RS × WS × Int, 2, (fun (n, q, W, h) vs M => vs = [.inr (.inr 50), .inl h] ∧ inR h ∧ RN n M 0 q ∧ RW n M W), .inr (fun (n, q, W, h) _ M x M' => CkA n q W h x ∧ RN n M' 0 (chkS n q W h).1 ∧ RW n M' (chkS n q W h).2 ∧ FCk M M')⟩
theorem row_hd {W : WS} (h : (rowF W).1 ≠ 0) : ∃ d, (rowF W).2[0]? = some d ∧ d.1 = 0 := by
  unfold rowF at h ⊢
  rw [ndL] at h ⊢
  split at h
  · rename_i c
    rw [if_pos c]
    exact ⟨_, rfl, rfl⟩
  · exact absurd rfl h
theorem row_ok (W : WS) : ∀ d ∈ (rowF W).2, NdOk W d := nd_ok (by decide) (by decide)
set_option maxHeartbeats 2000000 in
theorem v_check (n0 : Nn) : Ver tX8_check (fdX8, icX8, lcX8, [(138, some 8, c_isLiveL), (194, some 8, c_isRow), (124, some 8, c_slide), (120, some 8, c_end), (191, some 8, c_load), (91, some 8, c_compared), (197, some 8, c_isGood)]) 1 7 n0 c_check := by
  rintro ⟨n, q, W, h⟩ vs M0 ⟨rfl, ih, R, hW0, hw2, hw3, hw4⟩ aw run
  have l52 : lnF n0 52 = 37 := rfl
  have l61 : lnF n0 61 = 220 := rfl
  change aw 0 [some (.inr (.inr 50)), some (.inl h), none, none, none, none, none] [] M0
  refine run 90 [108, 136] _ _ _ _ ?_
  refine And.intro rfl ⟨(n, 0, q, h), ⟨rfl, ih, R⟩, ?_⟩
  rintro x M0 ⟨⟨rfl, hh⟩ | ⟨rfl, hh⟩, rfl⟩
  rotate_left
  · refine And.intro ⟨⟨by omega, by omega⟩, ⟨by omega, by omega⟩⟩ (And.intro (fun c1 => absurd c1 (by omega)) (fun _ => ?_))
    refine Or.inl ?_
    show CkA n q W h (-2) ∧ RN n M0 0 (chkS n q W h).1 ∧ RW n M0 (chkS n q W h).2 ∧ FCk M0 M0
    have e : chkS n q W h = (q, W) := if_neg hh
    rw [e]
    exact ⟨by unfold CkA; rw [if_neg hh], R, ⟨hW0, hw2, hw3, hw4⟩, ⟨fun _ _ => rfl, fun _ _ _ _ _ _ => rfl⟩⟩
  refine And.intro ⟨⟨by omega, by omega⟩, ⟨by omega, by omega⟩⟩ (And.intro (fun _ => ?_) (fun c2 => absurd c2 (by omega)))
  have b2 := R.n24
  have hcells := R.1.1.2.2.2.1
  have eS : chkS n q W h = if rowO W then (sldR n q, (0, W.2)) else (q, (0, W.2)) := if_pos hh
  obtain ⟨h, rfl, h_1, h_2⟩ := hh.nat
  have Ah := R.at h_1 h_2
  have eA : ∀ x, CkA n q W h x = if rowO W then (if fitO n q h then ((x = 0 ∧ AllG W (q.2.2.2 h)) ∨ (x = 1 ∧ ¬ AllG W (q.2.2.2 h))) else x = -4) else x = 2 := fun x => if_pos hh
  have clr : ∀ M, FCk M0 M → RW n (up2 M 50 18 0) (0, W.2) := fun M hF => ⟨⟨up2_s, Nat.zero_le 400, fun i hi => absurd hi (Nat.not_lt_zero i)⟩, by rw [up2_k (by decide), hF.2 2 (by decide) (by decide) (by decide) (by decide) (by decide)]; exact hw2, Nat.zero_le _, hw4⟩
  have fclr : ∀ M, FCk M0 M → FCk M0 (up2 M 50 18 0) := fun M hF => ⟨fun o a => by rw [up2_i (by omega)]; exact hF.1 o a, fun j a b c d e => by rw [up2_k c]; exact hF.2 j a b c d e⟩
  refine And.intro rfl ⟨(W, 0), ⟨rfl, hW0⟩, ?_⟩
  rintro x M1 ⟨hF1, ⟨rfl, r1, r2, hN, h400⟩ | ⟨rfl, r1⟩⟩
  rotate_left
  · have R1 := R.ag (fun o a b => hF1.1 o (by omega)) (fun j hj => hF1.2 j (by omega) (by omega))
    refine And.intro rfl ?_
    refine And.intro ⟨⟨by omega, by omega⟩, ⟨by omega, by omega⟩⟩ (And.intro (fun c1 => absurd c1 (by omega)) (fun _ => ?_))
    refine And.intro rfl (Or.inl ?_)
    show CkA n q W h 2 ∧ RN n (up2 M1 50 18 0) 0 (chkS n q W h).1 ∧ RW n (up2 M1 50 18 0) (chkS n q W h).2 ∧ FCk M0 (up2 M1 50 18 0)
    rw [eS, eA, if_neg r1, if_neg r1]
    exact ⟨rfl, R1.f5 (by decide), clr M1 hF1.K, fclr M1 hF1.K⟩
  have rO : rowO W := ⟨r1, r2⟩
  rw [if_pos rO] at eS
  have eA2 : ∀ x, CkA n q W h x = if fitO n q h then ((x = 0 ∧ AllG W (q.2.2.2 h)) ∨ (x = 1 ∧ ¬ AllG W (q.2.2.2 h))) else x = -4 := fun x => by rw [eA, if_pos rO]
  have R1 := R.ag (fun o a b => hF1.1 o (by omega)) (fun j hj => hF1.2 j (by omega) (by omega))
  refine And.intro rfl ?_
  refine And.intro ⟨⟨by omega, by omega⟩, ⟨by omega, by omega⟩⟩ (And.intro (fun _ => ?_) (fun c2 => absurd c2 (by omega)))
  refine And.intro rfl ⟨(n, 0), ⟨rfl, R1.1.1, R1.1.dj⟩, ?_⟩
  rintro M2 hS
  obtain ⟨R2, hF2⟩ := R1.slid hS
  clear hS
  have W2 : WB M2 W := by
    obtain ⟨a1, a2, a3⟩ := hF1.wb hW0
    exact ⟨by rw [hF2.2 18 (by decide) (by decide)]; exact a1, a2, fun i hi => by rw [hF2.1 60 (by decide) (by decide) (by decide) (by decide)]; exact a3 i hi⟩
  have N2 : NdM M2 (rowF W).2 := ⟨by rw [hF2.2 19 (by decide) (by decide)]; exact hN.1, fun j d hd => by rw [hF2.1 61 (by decide) (by decide) (by decide) (by decide), hF2.1 62 (by decide) (by decide) (by decide) (by decide), hF2.1 63 (by decide) (by decide) (by decide) (by decide), hF2.1 64 (by decide) (by decide) (by decide) (by decide)]; exact hN.2 j d hd⟩
  have k2 : FCk M0 M2 := hF1.K.tr hF2.N.K
  have h_3 : 0 < (sldR n q).2.1 h := h_2
  refine And.intro rfl ⟨(n, 0), ⟨rfl, R2.1.1⟩, ?_⟩
  rintro x M2 ⟨rfl, rfl⟩
  rw [R2.1.E]
  have hE0 := mxE_nn (sldR n q).1 (sldR n q).2.1 (n.1 + 5)
  have hE1 : mxE (sldR n q).1 (sldR n q).2.1 (n.1 + 5) ≤ 800 := mxE_le (by omega) (fun t ht hr => by have := R2.1.in ht hr; omega)
  have A2 := R2.at h_1 h_3
  have ah := A2.2.2.2.2.2.2.2
  have nh := A2.2.2.2.2.1
  change M2 52 h = (nd (q.2.2.2 h) : Int) at ah
  change nd (q.2.2.2 h) ≤ 64 at nh
  have m1 : M2 50 1 = (n.2.1 : Int) := R2.1.1.2.2.2.2.2.1
  refine And.intro rfl (And.intro ⟨rfl, by omega, by omega⟩ ?_)
  conv => whnf
  rw [Int.toNat_natCast, ah]
  refine And.intro rfl ?_
  have eF : fitO n q h = (mxE (sldR n q).1 (sldR n q).2.1 (n.1 + 5) + 6 * (nd (q.2.2.2 h) : Int) + 6 ≤ (n.2.1 : Int)) := rfl
  generalize mxE (sldR n q).1 (sldR n q).2.1 (n.1 + 5) = E at *
  by_cases cf : fitO n q h
  rotate_left
  · have cf2 := cf
    rw [eF] at cf2
    refine And.intro ⟨⟨by omega, by omega⟩, ⟨by omega, by omega⟩⟩ (And.intro (fun _ => ?_) (fun c2 => absurd c2 (by omega)))
    refine And.intro ⟨⟨by omega, by omega⟩, ⟨by omega, by omega⟩⟩ (And.intro (fun _ => ?_) (fun c2 => absurd c2 (by omega)))
    refine And.intro ?_ trivial
    refine run 40 [] _ _ _ _ ?_
    refine And.intro rfl ?_
    refine And.intro ⟨⟨by omega, by omega⟩, ⟨by omega, by omega⟩⟩ (And.intro (fun c1 => absurd c1 (by omega)) (fun _ => ?_))
    refine Or.inl ?_
    show CkA n q W h (-4) ∧ RN n (up2 M2 50 18 0) 0 (chkS n q W h).1 ∧ RW n (up2 M2 50 18 0) (chkS n q W h).2 ∧ FCk M0 (up2 M2 50 18 0)
    rw [eS, eA2, if_neg cf]
    exact ⟨rfl, R2.f5 (by decide), clr M2 k2, fclr M2 k2⟩
  have cf2 := cf
  rw [eF] at cf2
  refine And.intro ⟨⟨by omega, by omega⟩, ⟨by omega, by omega⟩⟩ (And.intro (fun c1 => absurd c1 (by omega)) (fun _ => ?_))
  refine And.intro ⟨⟨by omega, by omega⟩, ⟨by omega, by omega⟩⟩ (And.intro (fun c1 => absurd c1 (by omega)) (fun _ => ?_))
  have eA3 : ∀ x, CkA n q W h x = ((x = 0 ∧ AllG W (q.2.2.2 h)) ∨ (x = 1 ∧ ¬ AllG W (q.2.2.2 h))) := fun x => by rw [eA2, if_pos cf]
  have fin : ∀ (M : Mem) (g o3 : Int) (o6 : Option AV), ((g = 1 ∧ AllG W (q.2.2.2 h)) ∨ (g = 0 ∧ ¬ AllG W (q.2.2.2 h))) → RN n M 0 (sldR n q) → FCk M0 M → aw 136 [some (.inr (.inr 50)), some (.inl (h : Int)), some (.inl 1), some (.inl o3), some (.inl 1), some (.inl g), o6] [] M := by
    intro M g o3 o6 hg RM kM
    refine run 40 [] _ _ _ _ ?_
    refine And.intro rfl ?_
    refine And.intro ⟨⟨by omega, by omega⟩, ⟨by omega, by omega⟩⟩ (And.intro (fun _ => ?_) (fun c2 => absurd c2 (by omega)))
    rcases hg with ⟨rfl, hg⟩ | ⟨rfl, hg⟩
    · refine And.intro ⟨⟨by omega, by omega⟩, ⟨by omega, by omega⟩⟩ (And.intro (fun c1 => absurd c1 (by omega)) (fun _ => ?_))
      refine Or.inl ?_
      show CkA n q W h 0 ∧ RN n (up2 M 50 18 0) 0 (chkS n q W h).1 ∧ RW n (up2 M 50 18 0) (chkS n q W h).2 ∧ FCk M0 (up2 M 50 18 0)
      rw [eS, eA3]
      exact ⟨Or.inl ⟨rfl, hg⟩, RM.f5 (by decide), clr M kM, fclr M kM⟩
    · refine And.intro ⟨⟨by omega, by omega⟩, ⟨by omega, by omega⟩⟩ (And.intro (fun _ => ?_) (fun c2 => absurd c2 (by omega)))
      refine Or.inl ?_
      show CkA n q W h 1 ∧ RN n (up2 M 50 18 0) 0 (chkS n q W h).1 ∧ RW n (up2 M 50 18 0) (chkS n q W h).2 ∧ FCk M0 (up2 M 50 18 0)
      rw [eS, eA3]
      exact ⟨Or.inr ⟨rfl, hg⟩, RM.f5 (by decide), clr M kM, fclr M kM⟩
  obtain ⟨d0, hd0, hd1⟩ := row_hd r1
  have o61 := (N2.2 0 d0 hd0).1
  rw [hd1] at o61
  have od0 := row_ok W d0 (List.mem_of_getElem? hd0)
  have wd0 := wn_of W2 (o1_b od0.1).1
  rw [hd1] at wd0
  have hW400 := W2.2.1
  have loop : ∀ (r k : Nat) (M : Mem) (g o3 : Int), k + r = (rowF W).2.length → ((g = 1 ∧ nvW W 0 = q.2.2.2 h ∧ ∀ j d, j < k → (rowF W).2[j]? = some d → GoodN W (rowF W).2 j d) ∨ (g = 0 ∧ ¬ AllG W (q.2.2.2 h))) → FrL M2 M SCL → aw 108 [some (.inr (.inr 50)), some (.inl (h : Int)), some (.inl 1), some (.inl o3), some (.inl 1), some (.inl g), some (.inl (k : Int))] [] M := by
    intro r
    induction r with
    | zero =>
      intro k M g o3 hk hg hF
      have h19 : M 50 19 = ((rowF W).2.length : Int) := by rw [hF.1 50 (by decide) (by decide)]; exact N2.1
      refine run 60 [108, 136] _ _ _ _ ?_
      refine And.intro rfl ?_
      refine And.intro ⟨⟨by omega, by omega⟩, ⟨by omega, by omega⟩⟩ (And.intro (fun _ => ?_) (fun c2 => absurd c2 (by omega)))
      refine And.intro (fin M g o3 _ ?_ (R2.fl hF SCL_ge) (k2.tr hF.N.K)) trivial
      rcases hg with ⟨g1, g2, g3⟩ | hg
      · refine Or.inl ⟨g1, g2, fun j d hd => g3 j d ?_ hd⟩
        rcases Nat.lt_or_ge j (rowF W).2.length with c | c
        · omega
        · rw [List.getElem?_eq_none c] at hd
          exact absurd hd (by simp)
      · exact Or.inr hg
    | succ r ih =>
      intro k M g o3 hk hg hF
      have h19 : M 50 19 = ((rowF W).2.length : Int) := by rw [hF.1 50 (by decide) (by decide)]; exact N2.1
      refine run 60 [108, 136] _ _ _ _ ?_
      refine And.intro rfl ?_
      refine And.intro ⟨⟨by omega, by omega⟩, ⟨by omega, by omega⟩⟩ (And.intro (fun c1 => absurd c1 (by omega)) (fun _ => ?_))
      rcases hg with ⟨rfl, g2, g3⟩ | ⟨rfl, hg⟩
      rotate_left
      · refine And.intro ⟨⟨by omega, by omega⟩, ⟨by omega, by omega⟩⟩ (And.intro (fun _ => ?_) (fun c2 => absurd c2 (by omega)))
        exact And.intro (fin M 0 o3 _ (Or.inr ⟨rfl, hg⟩) (R2.fl hF SCL_ge) (k2.tr hF.N.K)) trivial
      refine And.intro ⟨⟨by omega, by omega⟩, ⟨by omega, by omega⟩⟩ (And.intro (fun c1 => absurd c1 (by omega)) (fun _ => ?_))
      obtain ⟨d, hd2, hd3, hd4⟩ := drop_get (L := (rowF W).2) (j := k) (by omega)
      have WM : WB M W := by
        obtain ⟨a1, a2, a3⟩ := W2
        exact ⟨by rw [hF.1 50 (by decide) (by decide)]; exact a1, a2, fun i hi => by rw [hF.1 60 (by decide) (by decide)]; exact a3 i hi⟩
      have NM : NdM M (rowF W).2 := ⟨h19, fun j d hd => by rw [hF.1 61 (by decide) (by decide), hF.1 62 (by decide) (by decide), hF.1 63 (by decide) (by decide), hF.1 64 (by decide) (by decide)]; exact N2.2 j d hd⟩
      refine And.intro rfl ⟨(W, (rowF W).2, k, d), ⟨rfl, WM, NM, hd2, row_ok W, h400⟩, ?_⟩
      rintro x M3 ⟨hx, hF3⟩
      refine And.intro ?_ trivial
      refine ih (k + 1) M3 x o3 (by omega) ?_ (hF.tr hF3)
      rcases hx with ⟨rfl, hx⟩ | ⟨rfl, hx⟩
      · refine Or.inl ⟨rfl, g2, fun j d' hj hd' => ?_⟩
        by_cases c : j = k
        · subst c
          rw [hd2] at hd'
          have := Option.some.inj hd'
          subst this
          exact hx
        · exact g3 j d' (by omega) hd'
      · exact Or.inr ⟨rfl, fun z => hx (z.2 k d hd2)⟩
  refine And.intro rfl (And.intro ⟨rfl, by omega, by omega⟩ ?_)
  conv => whnf
  rw [show ((0 : Int)).toNat = 0 from rfl, o61]
  refine And.intro rfl ⟨(0, 33, (W.2 0).toNat, nvW W 0), ⟨rfl, by omega, by omega, by omega, wd0.1⟩, ?_⟩
  rintro M3 ⟨hP3, hF3⟩
  have hh3 := hF3.keep (s := h) (by omega) A2.2.2.2.1 (by show nd (q.2.2.2 h) ≤ 420; omega)
  change MH M3 h (q.2.2.2 h) at hh3
  refine And.intro rfl ⟨(33, h, nvW W 0, q.2.2.2 h), ⟨rfl, by omega, by omega, hP3, by omega, hh3, by omega⟩, ?_⟩
  rintro x M3 ⟨rfl, rfl⟩
  have c3 := cm3_cases (nvW W 0) (q.2.2.2 h)
  by_cases ce : nvW W 0 = q.2.2.2 h
  · refine And.intro ⟨⟨by omega, by omega⟩, ⟨by omega, by omega⟩⟩ (And.intro (fun c1 => absurd c1 (by omega)) (fun _ => ?_))
    refine And.intro ?_ trivial
    exact loop (rowF W).2.length 0 M3 1 _ (by omega) (Or.inl ⟨rfl, ce, fun j d hj => absurd hj (Nat.not_lt_zero j)⟩) (hF3.L (by decide))
  · refine And.intro ⟨⟨by omega, by omega⟩, ⟨by omega, by omega⟩⟩ (And.intro (fun _ => ?_) (fun c2 => absurd c2 (by omega)))
    refine And.intro ?_ trivial
    exact loop (rowF W).2.length 0 M3 0 _ (by omega) (Or.inr ⟨rfl, fun z => ce z.1⟩) (hF3.L (by decide))
theorem imX8_check {l : Launch} {Z : ZT} (hZ : ZOk Z) : Impl l Z yX8_check cX8_check 7 (some .int) 6 c_check := mkImpl (rt := 1) (CL := [(138, some 8, c_isLiveL), (194, some 8, c_isRow), (124, some 8, c_slide), (120, some 8, c_end), (191, some 8, c_load), (91, some 8, c_compared), (197, some 8, c_isGood)]) hZ.1 hZ.2.1 (by decide +kernel) kX8_check fwX8 iwX8 lwX8 trivial (Nat.le_of_ble_eq_true rfl) (List.forall_mem_cons.mpr ⟨gX8_138_L hZ (by decide), List.forall_mem_cons.mpr ⟨gX8_194 hZ (by decide), List.forall_mem_cons.mpr ⟨gX8_124 hZ (by decide), List.forall_mem_cons.mpr ⟨gX8_120 hZ (by decide), List.forall_mem_cons.mpr ⟨gX8_191 hZ (by decide), List.forall_mem_cons.mpr ⟨gX8_91 hZ (by decide), List.forall_mem_cons.mpr ⟨gX8_197 hZ (by decide), fun q h => absurd h List.not_mem_nil⟩⟩⟩⟩⟩⟩⟩) ((v_check _))
