/-! ===== the reference: opens ===== -/
theorem v_opens (n0 : Nn) : Ver tX8_opens (fdX8, icX8, lcX8, [(180, some 8, c_passes), (184, some 8, c_isTwo), (127, none, c_isIn)]) 2 4 n0 c_opens := by
  rintro ⟨W, K, p, par, t⟩ vs M0 ⟨rfl, hW, h19, hK, h20, hp⟩ aw run
  have l60 : lnF n0 60 = 400 := rfl
  have l61 : lnF n0 61 = 220 := rfl
  have l62 : lnF n0 62 = 220 := rfl
  have l63 : lnF n0 63 = 220 := rfl
  have l64 : lnF n0 64 = 220 := rfl
  have l65 : lnF n0 65 = 220 := rfl
  change aw 0 [some (.inr (.inr 50)), some (.inl par), some (.inl t), none] [] M0
  refine run 90 [118] _ _ _ _ ?_
  refine And.intro rfl (And.intro rfl ?_)
  conv => whnf
  rw [h19]
  refine And.intro rfl (And.intro rfl (And.intro ⟨rfl, by omega, by omega⟩ (And.intro rfl (And.intro ⟨rfl, by omega, by omega⟩ (And.intro rfl (And.intro rfl (And.intro ⟨rfl, by omega, by omega⟩ (And.intro rfl (And.intro ⟨rfl, by omega, by omega⟩ (And.intro rfl (And.intro ⟨rfl, by omega, by omega⟩ ?_)))))))))))
  conv => whnf
  rw [Int.toNat_natCast]
  have e20 : up2 (up2 (up2 M0 50 19 ((K : Int) + 1)) 63 K par) 64 K t 50 20 = (p : Int) := by rw [up2_i (by decide), up2_i (by decide), up2_k (by decide)]; exact h20
  rw [e20]
  obtain ⟨M1, eM⟩ : ∃ M1 : Mem, M1 = up2 (up2 (up2 (up2 (up2 (up2 M0 50 19 ((K : Int) + 1)) 63 K par) 64 K t) 61 K (p : Int)) 62 K (-1)) 65 K 0 := ⟨_, rfl⟩
  have F1 : FOp M0 M1 K := by
    rw [eM]
    exact ((((((FOp.rf M0 K).c (Or.inl rfl)).a (by decide) (by decide)).a (by decide) (by decide)).a (by decide) (by decide)).a (by decide) (by decide)).a (by decide) (by decide)
  have f19 : M1 50 19 = ((K + 1 : Nat) : Int) := by
    rw [eM, up2_i (by decide), up2_i (by decide), up2_i (by decide), up2_i (by decide), up2_i (by decide), up2_s]
    rfl
  have f20 : M1 50 20 = (p : Int) := by
    rw [eM, up2_i (by decide), up2_i (by decide), up2_i (by decide), up2_i (by decide), up2_i (by decide), up2_k (by decide)]
    exact h20
  have f61 : M1 61 K = (p : Int) := by rw [eM, up2_i (by decide), up2_i (by decide), up2_s]
  have f62 : M1 62 K = -1 := by rw [eM, up2_i (by decide), up2_s]
  have f63 : M1 63 K = par := by rw [eM, up2_i (by decide), up2_i (by decide), up2_i (by decide), up2_i (by decide), up2_s]
  have f64 : M1 64 K = t := by rw [eM, up2_i (by decide), up2_i (by decide), up2_i (by decide), up2_s]
  have f65 : M1 65 K = 0 := by rw [eM, up2_s]
  rw [← eM]
  clear eM e20
  have W1 := F1.wb hW
  refine And.intro rfl ⟨(W, p), ⟨rfl, W1, f20, by omega⟩, ?_⟩
  rintro x M2 (⟨rfl, hE, rfl⟩ | ⟨rfl, hE, rfl⟩)
  rotate_left
  · refine And.intro ⟨⟨by omega, by omega⟩, ⟨by omega, by omega⟩⟩ (And.intro (fun c1 => absurd c1 (by omega)) (fun _ => ?_))
    refine And.intro (Or.inl rfl) (Or.inl ⟨F1, Or.inr ⟨rfl, ?_⟩⟩)
    unfold o1
    rw [if_pos hE]
  refine And.intro ⟨⟨by omega, by omega⟩, ⟨by omega, by omega⟩⟩ (And.intro (fun _ => ?_) (fun c2 => absurd c2 (by omega)))
  obtain ⟨p1, p2, p3, p4, p5, p6, p7, p8⟩ := pE_b hE
  have F2 : FOp M0 (up2 M1 50 20 (pE W p : Int)) K := F1.c (Or.inr rfl)
  have W2 := F2.wb hW
  have k19 : up2 M1 50 20 (pE W p : Int) 50 19 = ((K + 1 : Nat) : Int) := by rw [up2_k (by decide)]; exact f19
  have k20 : up2 M1 50 20 (pE W p : Int) 50 20 = (pE W p : Int) := up2_s
  have k61 : up2 M1 50 20 (pE W p : Int) 61 K = (p : Int) := by rw [up2_i (by decide)]; exact f61
  have k62 : up2 M1 50 20 (pE W p : Int) 62 K = -1 := by rw [up2_i (by decide)]; exact f62
  have k63 : up2 M1 50 20 (pE W p : Int) 63 K = par := by rw [up2_i (by decide)]; exact f63
  have k64 : up2 M1 50 20 (pE W p : Int) 64 K = t := by rw [up2_i (by decide)]; exact f64
  have k65 : up2 M1 50 20 (pE W p : Int) 65 K = 0 := by rw [up2_i (by decide)]; exact f65
  generalize up2 M1 50 20 (pE W p : Int) = M2 at *
  refine And.intro rfl ⟨(W, K, p), ⟨rfl, W2, hK, k61, by omega⟩, ?_⟩
  rintro x M2 ⟨⟨rfl, hT⟩ | ⟨rfl, hT⟩, rfl⟩
  · have e : o1 W p = (0, -1, pE W p) := by
      unfold o1
      rw [if_neg hE, if_pos hT]
    refine And.intro ⟨⟨by omega, by omega⟩, ⟨by omega, by omega⟩⟩ (And.intro (fun c1 => absurd c1 (by omega)) (fun _ => ?_))
    refine And.intro (Or.inr rfl) (Or.inl ⟨F2, Or.inl ?_⟩)
    show 1 = 1 ∧ (o1 W p).2.2 ≠ 0 ∧ M2 50 19 = ((K + 1 : Nat) : Int) ∧ M2 50 20 = ((o1 W p).2.2 : Int) ∧ M2 61 K = (p : Int) ∧ M2 62 K = (o1 W p).2.1 ∧ M2 63 K = par ∧ M2 64 K = t ∧ M2 65 K = ((o1 W p).1 : Int)
    rw [e]
    exact ⟨rfl, hE, k19, k20, k61, k62, k63, k64, k65⟩
  refine And.intro ⟨⟨by omega, by omega⟩, ⟨by omega, by omega⟩⟩ (And.intro (fun _ => ?_) (fun c2 => absurd c2 (by omega)))
  have e : o1 W p = (if pE W (pE W p) ≠ 0 ∧ pE W (pE W p) < W.1 ∧ 1 ≤ W.2 (pE W (pE W p)) ∧ W.2 (pE W (pE W p)) ≤ 20 then ((W.2 (pE W (pE W p))).toNat, (pE W p : Int), pE W (pE W p) + 1) else (0, 0, 0)) := by
    unfold o1
    rw [if_neg hE, if_neg hT]
  refine And.intro rfl (And.intro rfl (And.intro ⟨rfl, by omega, by omega⟩ ?_))
  conv => whnf
  rw [k20, Int.toNat_natCast]
  have F3 : FOp M0 (up2 M2 62 K (pE W p : Int)) K := F2.a (by decide) (by decide)
  have W3 := F3.wb hW
  have j19 : up2 M2 62 K (pE W p : Int) 50 19 = ((K + 1 : Nat) : Int) := by rw [up2_i (by decide)]; exact k19
  have j20 : up2 M2 62 K (pE W p : Int) 50 20 = (pE W p : Int) := by rw [up2_i (by decide)]; exact k20
  have j61 : up2 M2 62 K (pE W p : Int) 61 K = (p : Int) := by rw [up2_i (by decide)]; exact k61
  have j62 : up2 M2 62 K (pE W p : Int) 62 K = (pE W p : Int) := up2_s
  have j63 : up2 M2 62 K (pE W p : Int) 63 K = par := by rw [up2_i (by decide)]; exact k63
  have j64 : up2 M2 62 K (pE W p : Int) 64 K = t := by rw [up2_i (by decide)]; exact k64
  generalize up2 M2 62 K (pE W p : Int) = M3 at *
  have bad : ∀ M4, FOp M0 M4 K → ¬ (pE W (pE W p) ≠ 0 ∧ pE W (pE W p) < W.1 ∧ 1 ≤ W.2 (pE W (pE W p)) ∧ W.2 (pE W (pE W p)) ≤ 20) → aw 118 [some (.inr (.inr 50)), some (.inl par), some (.inl t), some (.inl (K : Int))] [] M4 := by
    intro M4 F4 hb
    rw [if_neg hb] at e
    refine run 20 [] _ _ _ _ ?_
    exact And.intro (Or.inl rfl) (Or.inl ⟨F4, Or.inr ⟨rfl, by rw [e]⟩⟩)
  refine And.intro rfl ⟨(W, pE W p), ⟨rfl, W3, j20, by have := hW.2.1; omega⟩, ?_⟩
  rintro x M4 (⟨rfl, hE2, rfl⟩ | ⟨rfl, hE2, rfl⟩)
  rotate_left
  · refine And.intro ⟨⟨by omega, by omega⟩, ⟨by omega, by omega⟩⟩ (And.intro (fun _ => ?_) (fun c2 => absurd c2 (by omega)))
    exact And.intro (bad _ F3 (fun z => z.1 hE2)) trivial
  refine And.intro ⟨⟨by omega, by omega⟩, ⟨by omega, by omega⟩⟩ (And.intro (fun c1 => absurd c1 (by omega)) (fun _ => ?_))
  obtain ⟨q1, q2, q3, q4, q5, q6, q7, q8⟩ := pE_b hE2
  have F4 : FOp M0 (up2 M3 50 20 (pE W (pE W p) : Int)) K := F3.c (Or.inr rfl)
  have W4 := F4.wb hW
  have i19 : up2 M3 50 20 (pE W (pE W p) : Int) 50 19 = ((K + 1 : Nat) : Int) := by rw [up2_k (by decide)]; exact j19
  have i20 : up2 M3 50 20 (pE W (pE W p) : Int) 50 20 = (pE W (pE W p) : Int) := up2_s
  have i61 : up2 M3 50 20 (pE W (pE W p) : Int) 61 K = (p : Int) := by rw [up2_i (by decide)]; exact j61
  have i62 : up2 M3 50 20 (pE W (pE W p) : Int) 62 K = (pE W p : Int) := by rw [up2_i (by decide)]; exact j62
  have i63 : up2 M3 50 20 (pE W (pE W p) : Int) 63 K = par := by rw [up2_i (by decide)]; exact j63
  have i64 : up2 M3 50 20 (pE W (pE W p) : Int) 64 K = t := by rw [up2_i (by decide)]; exact j64
  generalize up2 M3 50 20 (pE W (pE W p) : Int) = M4 at *
  obtain ⟨E, eE⟩ : ∃ E, E = pE W (pE W p) := ⟨_, rfl⟩
  rw [← eE] at hE2 q1 q2 q8 i20 e bad
  obtain ⟨w1, w2, w3⟩ := W4
  refine And.intro rfl (And.intro rfl ?_)
  by_cases c1 : E < W.1
  rotate_left
  · refine And.intro ⟨⟨by omega, by omega⟩, ⟨by omega, by omega⟩⟩ (And.intro (fun _ => ?_) (fun c2 => absurd c2 (by omega)))
    exact And.intro (bad M4 F4 (fun z => c1 z.2.1)) trivial
  refine And.intro ⟨⟨by omega, by omega⟩, ⟨by omega, by omega⟩⟩ (And.intro (fun c1 => absurd c1 (by omega)) (fun _ => ?_))
  have w4 := w3 E c1
  refine And.intro rfl (And.intro rfl (And.intro ⟨rfl, by omega, by omega⟩ ?_))
  conv => whnf
  rw [i20, Int.toNat_natCast, w4.1]
  refine ⟨(W.2 E, 1, 20), ⟨rfl, ⟨by omega, by omega⟩, ⟨by omega, by omega⟩, ⟨by omega, by omega⟩⟩, ?_⟩
  rintro x M4 ⟨rfl, rfl⟩
  by_cases c2 : 1 ≤ W.2 E ∧ W.2 E ≤ 20
  rotate_left
  · rw [if_neg c2]
    refine And.intro ⟨⟨by omega, by omega⟩, ⟨by omega, by omega⟩⟩ (And.intro (fun c1 => absurd c1 (by omega)) (fun _ => ?_))
    exact And.intro (bad M4 F4 (fun z => c2 z.2.2)) trivial
  rw [if_pos c2]
  refine And.intro ⟨⟨by omega, by omega⟩, ⟨by omega, by omega⟩⟩ (And.intro (fun _ => ?_) (fun c2 => absurd c2 (by omega)))
  rw [if_pos ⟨hE2, c1, c2⟩] at e
  refine And.intro rfl (And.intro rfl (And.intro rfl (And.intro ⟨rfl, by omega, by omega⟩ (And.intro ⟨rfl, by omega, by omega⟩ ?_))))
  conv => whnf
  rw [i20, Int.toNat_natCast, Int.toNat_natCast, w4.1]
  refine And.intro rfl (And.intro rfl (And.intro (Or.inr rfl) (Or.inl ⟨?_, Or.inl ?_⟩)))
  · exact (F4.a (by decide) (by decide)).c (Or.inr rfl)
  · show 1 = 1 ∧ (o1 W p).2.2 ≠ 0 ∧ up2 (up2 M4 65 K (W.2 E)) 50 20 (up2 M4 65 K (W.2 E) 50 20 + 1) 50 19 = ((K + 1 : Nat) : Int) ∧ up2 (up2 M4 65 K (W.2 E)) 50 20 (up2 M4 65 K (W.2 E) 50 20 + 1) 50 20 = ((o1 W p).2.2 : Int) ∧ up2 (up2 M4 65 K (W.2 E)) 50 20 (up2 M4 65 K (W.2 E) 50 20 + 1) 61 K = (p : Int) ∧ up2 (up2 M4 65 K (W.2 E)) 50 20 (up2 M4 65 K (W.2 E) 50 20 + 1) 62 K = (o1 W p).2.1 ∧ up2 (up2 M4 65 K (W.2 E)) 50 20 (up2 M4 65 K (W.2 E) 50 20 + 1) 63 K = par ∧ up2 (up2 M4 65 K (W.2 E)) 50 20 (up2 M4 65 K (W.2 E) 50 20 + 1) 64 K = t ∧ up2 (up2 M4 65 K (W.2 E)) 50 20 (up2 M4 65 K (W.2 E) 50 20 + 1) 65 K = ((o1 W p).1 : Int)
    rw [e]
    refine ⟨rfl, Nat.succ_ne_zero _, ?_, ?_, ?_, ?_, ?_, ?_, ?_⟩
    · rw [up2_k (by decide), up2_i (by decide)]; exact i19
    · rw [up2_s, up2_i (by decide), i20]; rfl
    · rw [up2_i (by decide), up2_i (by decide)]; exact i61
    · rw [up2_i (by decide), up2_i (by decide)]; exact i62
    · rw [up2_i (by decide), up2_i (by decide)]; exact i63
    · rw [up2_i (by decide), up2_i (by decide)]; exact i64
    · rw [up2_i (by decide), up2_s]
      show W.2 E = ((W.2 E).toNat : Int)
      omega
theorem imX8_opens {l : Launch} {Z : ZT} (hZ : ZOk Z) : Impl l Z yX8_opens cX8_opens 4 (some .boolean) 3 c_opens := mkImpl (rt := 2) (CL := [(180, some 8, c_passes), (184, some 8, c_isTwo), (127, none, c_isIn)]) hZ.1 hZ.2.1 (by decide +kernel) kX8_opens fwX8 iwX8 lwX8 trivial (Nat.le_of_ble_eq_true rfl) (List.forall_mem_cons.mpr ⟨gX8_180 hZ (by decide), List.forall_mem_cons.mpr ⟨gX8_184 hZ (by decide), List.forall_mem_cons.mpr ⟨gX8_127 hZ (by decide), fun q h => absurd h List.not_mem_nil⟩⟩⟩) ((v_opens _))
theorem gX8_187 {l : Launch} {Z : ZT} (hZ : ZOk Z) {d : Nat} (hd : 4 ≤ d) : CallI l Z RX8 d (187, some 8, c_opens) := fun p e s m args below meth c Q cc nL x0 X => callOk_V X (imX8_opens hZ) (by decide) rfl mlX8_187 iw_yX8_opens vw_yX8_opens nw_RX8 cw_yX8_opens ⟨by decide +kernel, by decide +kernel, by decide +kernel⟩ ⟨hd, by decide⟩
