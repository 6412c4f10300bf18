/-! ===== the class: alloc, resize, look ===== -/
theorem v_allocX (n : Nn) : Ver tX7_alloc (fdX7, icX7, lcX7, [(85, none, c_btw 1 64), (89, some 1, c_leastFree n), (93, some 5, c_trim), (96, some 1, c_giveR n)]) 1 3 n (cX1 alcF n) := by
  rintro ⟨q, k⟩ vs M0 ⟨rfl, ik, R⟩ aw run
  have b := R.n24
  change aw 0 [some (.inr (.inr 0)), some (.inl k), none] [] M0
  refine run 90 [] _ _ _ _ ?_
  refine ⟨(k, 0), ⟨rfl, ik⟩, ?_⟩
  rintro x M0 ⟨⟨rfl, hk⟩ | ⟨rfl, hk⟩, rfl⟩
  rotate_left
  · refine And.intro ⟨⟨by omega, by omega⟩, ⟨by omega, by omega⟩⟩ (And.intro (fun c1 => absurd c1 (by omega)) (fun _ => ?_))
    refine Or.inl ?_
    show -3 = ((alcF n q k)).1 ∧ XN n M0 0 ((alcF n q k)).2 ∧ FP M0 M0
    rw [show alcF n q k = (-3, q) from if_neg hk]
    exact ⟨rfl, R, FP.rf _⟩
  refine And.intro ⟨⟨by omega, by omega⟩, ⟨by omega, by omega⟩⟩ (And.intro (fun _ => ?_) (fun c2 => absurd c2 (by omega)))
  have e : alcF n q k = (if frF q.2.1 n.1 0 = n.1 then (-9, q) else tcR n 0 q k (fun _ q1 => ((frF q.2.1 n.1 0 : Int), gvR n q1 (va_up (fun t => t) (frF q.2.1 n.1 0) n.1) (va_up q1.2.2.2 (frF q.2.1 n.1 0) 0)))) := if_pos hk
  refine And.intro rfl (And.intro rfl ⟨(0, q), ⟨rfl, R⟩, ?_⟩)
  rintro x M0 ⟨rfl, rfl⟩
  have fb : ∀ r i, frF q.2.1 r i ≤ i + r := by
    intro r
    induction r with
    | zero => intro i; exact Nat.le_refl _
    | succ r ih =>
      intro i
      rw [frF]
      split
      · omega
      · have := ih (i + 1)
        omega
  have fb0 := fb n.1 0
  by_cases c : frF q.2.1 n.1 0 = n.1
  · rw [if_pos c] at e ⊢
    refine And.intro ⟨⟨by omega, by omega⟩, ⟨by omega, by omega⟩⟩ (And.intro (fun c1 => absurd c1 (by omega)) (fun _ => ?_))
    refine Or.inl ?_
    show -9 = ((alcF n q k)).1 ∧ XN n M0 0 ((alcF n q k)).2 ∧ FP M0 M0
    rw [e]
    exact ⟨rfl, R, FP.rf _⟩
  rw [if_neg c] at e ⊢
  generalize frF q.2.1 n.1 0 = h at *
  refine And.intro ⟨⟨by omega, by omega⟩, ⟨by omega, by omega⟩⟩ (And.intro (fun _ => ?_) (fun c2 => absurd c2 (by omega)))
  refine And.intro rfl (And.intro rfl ⟨(21, 0, 0), ⟨rfl, by decide, by omega, by decide, fun i hi => by omega⟩, ?_⟩)
  rintro M1 rfl
  have hX1 : XR (up2 M0 21 1 (nd 0 : Int)) 21 0 := XR.fix (k := 0) (fun i hi => by omega) (by decide)
  have hF1 : FrX M0 (up2 M0 21 1 (nd 0 : Int)) 21 := FrX.len
  generalize up2 M0 21 1 (nd 0 : Int) = M1 at *
  have R1 := R.fx hF1 (by decide)
  refine And.intro rfl (And.intro rfl (And.intro rfl ⟨(q, h, k, 21, 0), ⟨rfl, R1, by omega, by omega, by omega, by decide, hX1, by rw [nd_0]; omega⟩, ?_⟩))
  rintro x M2 ⟨q1, ho, hvl, hF2⟩
  have f2 : FP M0 M2 := (hF1.P (by decide)).tr hF2.P
  rcases ho with ⟨rfl, ht, R2⟩ | ⟨rfl, ht, R2⟩
  · refine And.intro ⟨⟨by omega, by omega⟩, ⟨by omega, by omega⟩⟩ (And.intro (fun c1 => absurd c1 (by omega)) (fun _ => ?_))
    refine Or.inl ?_
    show (h : Int) = ((alcF n q k)).1 ∧ XN n M2 0 ((alcF n q k)).2 ∧ FP M0 M2
    rw [e]
    unfold tcR
    rw [ht]
    refine ⟨rfl, ?_, f2⟩
    rw [← hvl] at R2
    exact R2
  · refine And.intro ⟨⟨by omega, by omega⟩, ⟨by omega, by omega⟩⟩ (And.intro (fun _ => ?_) (fun c2 => absurd c2 (by omega)))
    refine Or.inl ?_
    show -4 = ((alcF n q k)).1 ∧ XN n M2 0 ((alcF n q k)).2 ∧ FP M0 M2
    rw [e]
    unfold tcR
    rw [ht]
    exact ⟨rfl, R2, f2⟩
theorem imX7_alloc {l : Launch} {Z : ZT} (hZ : ZOk Z) : Impl l Z yX7_alloc cX7_alloc 3 (some .int) 6 (cX1 alcF (zN Z)) := mkImpl (rt := 1) (CL := [(85, none, (c_btw 1 64)), (89, some 1, (c_leastFree (zN Z))), (93, some 5, c_trim), (96, some 1, (c_giveR (zN Z)))]) hZ.1 hZ.2.1 (by decide +kernel) kX7_alloc fwX7 iwX7 lwX7 trivial (Nat.le_of_ble_eq_true rfl) (List.forall_mem_cons.mpr ⟨gX7_85 hZ (by decide), List.forall_mem_cons.mpr ⟨gX7_89 hZ (by decide), List.forall_mem_cons.mpr ⟨gX7_93 hZ (by decide), List.forall_mem_cons.mpr ⟨gX7_96 hZ (by decide), fun q h => absurd h List.not_mem_nil⟩⟩⟩⟩) ((v_allocX (zN Z)))
theorem v_resizeX (n : Nn) : Ver tX7_resize (fdX7, icX7, lcX7, [(100, some 1, c_isLiveX n), (85, none, c_btw 1 64), (113, some 1, c_readX n), (96, some 1, c_giveR n)]) 1 3 n (cX2 rszF n) := by
  rintro ⟨q, h, k⟩ vs M0 ⟨rfl, ih, ik, R⟩ aw run
  have l4 : lnF n 4 = n.1 + 5 := rfl
  have l5 : lnF n 5 = n.1 := rfl
  have ik0 := ik
  unfold inR at ik0
  change aw 0 [some (.inr (.inr 0)), some (.inl h), some (.inl k)] [] M0
  refine run 90 [34] _ _ _ _ ?_
  refine And.intro rfl (And.intro rfl ⟨(0, q, h), ⟨rfl, ih, R⟩, ?_⟩)
  rintro x M0 ⟨⟨rfl, hh⟩ | ⟨rfl, hh⟩, rfl⟩
  rotate_left
  · refine And.intro ⟨⟨by omega, by omega⟩, ⟨by omega, by omega⟩⟩ (And.intro (fun c1 => absurd c1 (by omega)) (fun _ => ?_))
    refine Or.inl ?_
    show -2 = ((rszF n q h k)).1 ∧ XN n M0 0 ((rszF n q h k)).2 ∧ FP M0 M0
    rw [show (rszF n q h k) = (-2, q) from if_neg hh]
    exact ⟨rfl, R, FP.rf _⟩
  refine And.intro ⟨⟨by omega, by omega⟩, ⟨by omega, by omega⟩⟩ (And.intro (fun _ => ?_) (fun c2 => absurd c2 (by omega)))
  obtain ⟨h, rfl, h_1, h_2⟩ := hh.nat
  have Ah := R.at h_1 h_2
  have L0 := Lv.of h_1 h_2
  have e : rszF n q h k = (if 1 ≤ k ∧ k ≤ 64 ∧ (nd (q.2.2.2 h) : Int) ≤ k then (if k = q.2.1 h then (0, q) else tcR n 0 q k (fun _ q1 => (0, gvR n q1 (va_up (fun t => t) h n.1) q1.2.2.2))) else (-3, q)) := if_pos L0
  have bad : ¬ (1 ≤ k ∧ k ≤ 64 ∧ (nd (q.2.2.2 h) : Int) ≤ k) → aw 34 [some (.inr (.inr 0)), some (.inl (h : Int)), some (.inl k)] [] M0 := by
    intro hb
    refine run 60 [] _ _ _ _ ?_
    refine Or.inl ?_
    show -3 = ((rszF n q h k)).1 ∧ XN n M0 0 ((rszF n q h k)).2 ∧ FP M0 M0
    rw [e, if_neg hb]
    exact ⟨rfl, R, FP.rf _⟩
  refine ⟨(k, 0), ⟨rfl, ik⟩, ?_⟩
  rintro x M0 ⟨⟨rfl, hk⟩ | ⟨rfl, hk⟩, rfl⟩
  rotate_left
  · refine And.intro ⟨⟨by omega, by omega⟩, ⟨by omega, by omega⟩⟩ (And.intro (fun _ => ?_) (fun c2 => absurd c2 (by omega)))
    exact And.intro (bad (by omega)) trivial
  refine And.intro ⟨⟨by omega, by omega⟩, ⟨by omega, by omega⟩⟩ (And.intro (fun c1 => absurd c1 (by omega)) (fun _ => ?_))
  refine And.intro rfl (And.intro rfl (And.intro ⟨rfl, by omega, by omega⟩ ?_))
  conv => whnf
  rw [Int.toNat_natCast, Ah.2.2.2.2.1]
  refine And.intro ⟨⟨by omega, by omega⟩, ⟨by omega, by omega⟩⟩ (And.intro (fun c1 => ?_) (fun c2 => ?_))
  rotate_left
  · exact And.intro (bad (by omega)) trivial
  rw [if_pos (by omega)] at e
  refine And.intro rfl (And.intro rfl (And.intro ⟨rfl, by omega, by omega⟩ ?_))
  conv => whnf
  rw [Int.toNat_natCast, Ah.1]
  by_cases ck : k = q.2.1 h
  · refine And.intro ⟨⟨by omega, by omega⟩, ⟨by omega, by omega⟩⟩ (And.intro (fun c1 => absurd c1 (by omega)) (fun _ => ?_))
    refine Or.inl ?_
    show 0 = ((rszF n q h k)).1 ∧ XN n M0 0 ((rszF n q h k)).2 ∧ FP M0 M0
    rw [e, if_pos ck]
    exact ⟨rfl, R, FP.rf _⟩
  rw [if_neg ck] at e
  refine And.intro ⟨⟨by omega, by omega⟩, ⟨by omega, by omega⟩⟩ (And.intro (fun _ => ?_) (fun c2 => absurd c2 (by omega)))
  refine And.intro rfl (And.intro rfl (And.intro rfl ⟨(0, q, h, 21), ⟨rfl, by decide, h_1, h_2, R⟩, ?_⟩))
  rintro M1 ⟨hX1, hF1⟩
  have R1 := R.fx hF1 (by decide)
  refine And.intro rfl (And.intro rfl (And.intro rfl ⟨(q, h, k, 21, q.2.2.2 h), ⟨rfl, R1, h_1, by omega, by omega, by decide, hX1, by omega⟩, ?_⟩))
  rintro x M2 ⟨q1, ho, hvl, hF2⟩
  have f2 : FP M0 M2 := (hF1.P (by decide)).tr hF2.P
  rcases ho with ⟨rfl, ht, R2⟩ | ⟨rfl, ht, R2⟩
  · refine And.intro ⟨⟨by omega, by omega⟩, ⟨by omega, by omega⟩⟩ (And.intro (fun c1 => absurd c1 (by omega)) (fun _ => ?_))
    refine Or.inl ?_
    show 0 = ((rszF n q h k)).1 ∧ XN n M2 0 ((rszF n q h k)).2 ∧ FP M0 M2
    rw [e]
    unfold tcR
    rw [ht]
    refine ⟨rfl, R2.cong (fun t ht => ⟨rfl, fun _ => rfl⟩) rfl (fun t ht _ => ?_), f2⟩
    show q1.2.2.2 t = va_up q.2.2.2 h (q.2.2.2 h) t
    rw [hvl]
    by_cases c : t = h
    · rw [c, va_up_self]
    · rw [va_up_ne _ _ c]
  · refine And.intro ⟨⟨by omega, by omega⟩, ⟨by omega, by omega⟩⟩ (And.intro (fun _ => ?_) (fun c2 => absurd c2 (by omega)))
    refine Or.inl ?_
    show -4 = ((rszF n q h k)).1 ∧ XN n M2 0 ((rszF n q h k)).2 ∧ FP M0 M2
    rw [e]
    unfold tcR
    rw [ht]
    exact ⟨rfl, R2, f2⟩
theorem imX7_resize {l : Launch} {Z : ZT} (hZ : ZOk Z) : Impl l Z yX7_resize cX7_resize 3 (some .int) 6 (cX2 rszF (zN Z)) := mkImpl (rt := 1) (CL := [(100, some 1, (c_isLiveX (zN Z))), (85, none, (c_btw 1 64)), (113, some 1, (c_readX (zN Z))), (96, some 1, (c_giveR (zN Z)))]) hZ.1 hZ.2.1 (by decide +kernel) kX7_resize fwX7 iwX7 lwX7 trivial (Nat.le_of_ble_eq_true rfl) (List.forall_mem_cons.mpr ⟨gX7_100 hZ (by decide), List.forall_mem_cons.mpr ⟨gX7_85 hZ (by decide), List.forall_mem_cons.mpr ⟨gX7_113 hZ (by decide), List.forall_mem_cons.mpr ⟨gX7_96 hZ (by decide), fun q h => absurd h List.not_mem_nil⟩⟩⟩⟩) ((v_resizeX (zN Z)))
theorem v_lookX (n : Nn) : Ver tX7_look (fdX7, icX7, lcX7, [(100, some 1, c_isLiveX n), (113, some 1, c_readX n), (129, some 5, c_bitsX)]) 1 3 n (cX2 (lkF2 lokF) n) := by
  rintro ⟨q, h, w⟩ vs M0 ⟨rfl, ih, iw, R⟩ aw run
  have l3 : lnF n 3 = n.1 + 5 := rfl
  have l4 : lnF n 4 = n.1 + 5 := rfl
  have l5 : lnF n 5 = n.1 := rfl
  have iw0 := iw
  unfold inR at iw0
  change aw 0 [some (.inr (.inr 0)), some (.inl h), some (.inl w)] [] M0
  refine run 90 [] _ _ _ _ ?_
  refine And.intro rfl (And.intro rfl ⟨(0, q, h), ⟨rfl, ih, R⟩, ?_⟩)
  rintro x M0 ⟨⟨rfl, hh⟩ | ⟨rfl, hh⟩, rfl⟩
  rotate_left
  · refine And.intro ⟨⟨by omega, by omega⟩, ⟨by omega, by omega⟩⟩ (And.intro (fun c1 => absurd c1 (by omega)) (fun _ => ?_))
    refine Or.inl ⟨?_, R, FP.rf _⟩
    show -2 = lokF n q h w
    rw [lokF, if_neg hh]
  refine And.intro ⟨⟨by omega, by omega⟩, ⟨by omega, by omega⟩⟩ (And.intro (fun _ => ?_) (fun c2 => absurd c2 (by omega)))
  obtain ⟨h, rfl, h_1, h_2⟩ := hh.nat
  have Ah := R.at h_1 h_2
  have e : lokF n q h w = (if w = 0 then (nd (q.2.2.2 h) : Int) else if w = 1 then q.2.1 h else if w = 2 then q.1 h else if w = 3 then (nb (q.2.2.2 h) : Int) else -1) := if_pos (Lv.of h_1 h_2)
  refine And.intro ⟨by omega, by omega⟩ (And.intro (fun c => ?_) (And.intro (fun c => ?_) (And.intro (fun c => ?_) (And.intro (fun c => ?_) (And.intro (fun c => ?_) trivial)))))
  · refine Or.inl ⟨?_, R, FP.rf _⟩
    show -1 = lokF n q h w
    rw [e, if_neg (by omega), if_neg (by omega), if_neg (by omega), if_neg (by omega)]
  · refine And.intro rfl (And.intro rfl (And.intro ⟨rfl, by omega, by omega⟩ (Or.inl ⟨?_, R, FP.rf _⟩)))
    show M0 5 (h : Int).toNat = lokF n q h w
    rw [e, if_pos c, Int.toNat_natCast, Ah.2.2.2.2.1]
  · refine And.intro rfl (And.intro rfl (And.intro ⟨rfl, by omega, by omega⟩ (Or.inl ⟨?_, R, FP.rf _⟩)))
    show M0 4 (h : Int).toNat = lokF n q h w
    rw [e, if_neg (by omega), if_pos (by omega), Int.toNat_natCast, Ah.1]
  · refine And.intro rfl (And.intro rfl (And.intro ⟨rfl, by omega, by omega⟩ (Or.inl ⟨?_, R, FP.rf _⟩)))
    show M0 3 (h : Int).toNat = lokF n q h w
    rw [e, if_neg (by omega), if_neg (by omega), if_pos (by omega), Int.toNat_natCast, Ah.2.1]
  · refine And.intro rfl (And.intro rfl (And.intro rfl ⟨(0, q, h, 21), ⟨rfl, by decide, h_1, h_2, R⟩, ?_⟩))
    rintro M1 ⟨hX1, hF1⟩
    have R1 := R.fx hF1 (by decide)
    refine And.intro rfl (And.intro rfl ⟨(21, q.2.2.2 h), ⟨rfl, by decide, hX1, by omega⟩, ?_⟩)
    rintro x M1 ⟨rfl, rfl⟩
    refine Or.inl ⟨?_, R1, hF1.P (by decide)⟩
    show (nb (q.2.2.2 h) : Int) = lokF n q h w
    rw [e, if_neg (by omega), if_neg (by omega), if_neg (by omega), if_pos (by omega)]
theorem imX7_look {l : Launch} {Z : ZT} (hZ : ZOk Z) : Impl l Z yX7_look cX7_look 3 (some .int) 4 (cX2 (lkF2 lokF) (zN Z)) := mkImpl (rt := 1) (CL := [(100, some 1, (c_isLiveX (zN Z))), (113, some 1, (c_readX (zN Z))), (129, some 5, c_bitsX)]) hZ.1 hZ.2.1 (by decide +kernel) kX7_look fwX7 iwX7 lwX7 trivial (Nat.le_of_ble_eq_true rfl) (List.forall_mem_cons.mpr ⟨gX7_100 hZ (by decide), List.forall_mem_cons.mpr ⟨gX7_113 hZ (by decide), List.forall_mem_cons.mpr ⟨gX7_129 hZ (by decide), fun q h => absurd h List.not_mem_nil⟩⟩⟩) ((v_lookX (zN Z)))
/-- the words of the certificate -/
def XW (n : Nn) (M : Mem) (W : WS) : Prop := M 43 1 = (W.1 : Int) ∧ W.1 ≤ n.2.2 ∧ n.2.2 ≤ 400 ∧ ∀ i, i < W.1 → M 44 i = W.2 i ∧ 0 ≤ W.2 i ∧ W.2 i ≤ 32767
theorem XW.fr {n : Nn} {M M' : Mem} {W : WS} (h : XW n M W) (e1 : M' 43 1 = M 43 1) (e2 : M' 44 = M 44) : XW n M' W := by
  unfold XW at *
  rw [e1, e2]
  exact h
theorem smR_5 {rm : Nat → Int} {k : Nat} : ∀ j, (∀ t, k ≤ t → t < k + j → rm t = 0) → smR rm (k + j) = smR rm k := by
  intro j
  induction j with
  | zero => intro _; rfl
  | succ j ih =>
    intro h
    rw [← Nat.add_assoc, smR, ih (fun t a b => h t a (by omega)), h (k + j) (by omega) (by omega)]
    exact Int.add_zero _
def c_aboutX (n : Nn) : Call := ⟨RS × WS × TS × Int, 2, (fun (q, W, T, a) vs M => vs = [.inr (.inr 0), .inl a] ∧ inR a ∧ XN n M 0 q ∧ XW n M W ∧ XT M T), .inr (fun (q, W, T, a) _ M x M' => x = abtF n q W.1 T.1 a ∧ M' = M)⟩
theorem v_aboutX (n : Nn) : Ver tX7_about (fdX7, icX7, lcX7, [(132, some 1, c_used n), (135, some 1, c_highE n), (141, some 1, c_liveH n)]) 1 2 n (c_aboutX n) := by
  rintro ⟨q, W, T, a⟩ vs M0 ⟨rfl, ia, R, hW, hT⟩ aw run
  have l2 : lnF n 2 = n.2.1 := rfl
  have l44 : lnF n 44 = n.2.2 := rfl
  have hd := R.hd
  unfold inR at ia
  change aw 0 [some (.inr (.inr 0)), some (.inl a)] [] M0
  have e : abtF n q W.1 T.1 a = if a = 0 then smR q.2.1 n.1 else if a = 1 then mxE q.1 q.2.1 (n.1 + 5) else if a = 2 then q.2.2.1 else if a = 3 then ctR q.2.1 n.1 else if a = 4 then (W.1 : Int) else if a = 5 then (n.1 : Int) else if a = 6 then (n.2.1 : Int) else if a = 7 then (n.2.2 : Int) else if a = 8 then (T.1 : Int) else -1 := rfl
  refine run 90 [] _ _ _ _ ?_
  refine And.intro ⟨by omega, by omega⟩ (And.intro (fun c => ?_) (And.intro (fun c => ?_) (And.intro (fun c => ?_) (And.intro (fun c => ?_) (And.intro (fun c => ?_) (And.intro (fun c => ?_) (And.intro (fun c => ?_) (And.intro (fun c => ?_) (And.intro (fun c => ?_) (And.intro (fun c => ?_) trivial))))))))))
  · refine Or.inl ⟨?_, rfl⟩
    show -1 = abtF n q W.1 T.1 a
    rw [e, if_neg (by omega), if_neg (by omega), if_neg (by omega), if_neg (by omega), if_neg (by omega), if_neg (by omega), if_neg (by omega), if_neg (by omega), if_neg (by omega)]
  · refine And.intro rfl (And.intro rfl ⟨(0, q), ⟨rfl, R⟩, ?_⟩)
    rintro x M0 ⟨rfl, rfl⟩
    refine Or.inl ⟨?_, rfl⟩
    show smR q.2.1 (n.1 + 5) = abtF n q W.1 T.1 a
    rw [e, if_pos c, smR_5 5 (fun t h1 h2 => R.2.2.2.1 t (by omega) h2)]
  · refine And.intro rfl (And.intro rfl ⟨(0, q), ⟨rfl, R⟩, ?_⟩)
    rintro x M0 ⟨rfl, rfl⟩
    refine Or.inl ⟨?_, rfl⟩
    show mxE q.1 q.2.1 (n.1 + 5) = abtF n q W.1 T.1 a
    rw [e, if_neg (by omega), if_pos (by omega)]
  · refine And.intro rfl (And.intro rfl (Or.inl ⟨?_, rfl⟩))
    show M0 1 6 = abtF n q W.1 T.1 a
    rw [e, if_neg (by omega), if_neg (by omega), if_pos (by omega)]
    exact hd.2.2
  · refine And.intro rfl (And.intro rfl ⟨(0, q), ⟨rfl, R⟩, ?_⟩)
    rintro x M0 ⟨rfl, rfl⟩
    refine Or.inl ⟨?_, rfl⟩
    show ctR q.2.1 n.1 = abtF n q W.1 T.1 a
    rw [e, if_neg (by omega), if_neg (by omega), if_neg (by omega), if_pos (by omega)]
  · refine And.intro rfl (And.intro rfl (Or.inl ⟨?_, rfl⟩))
    show M0 43 1 = abtF n q W.1 T.1 a
    rw [e, if_neg (by omega), if_neg (by omega), if_neg (by omega), if_neg (by omega), if_pos (by omega)]
    exact hW.1
  · refine And.intro rfl (And.intro rfl (Or.inl ⟨?_, rfl⟩))
    show M0 1 0 = abtF n q W.1 T.1 a
    rw [e, if_neg (by omega), if_neg (by omega), if_neg (by omega), if_neg (by omega), if_neg (by omega), if_pos (by omega)]
    exact hd.1
  · refine And.intro rfl (And.intro rfl (And.intro rfl (Or.inl ⟨?_, rfl⟩)))
    show ((lnF n 2 : Nat) : Int) = abtF n q W.1 T.1 a
    rw [e, if_neg (by omega), if_neg (by omega), if_neg (by omega), if_neg (by omega), if_neg (by omega), if_neg (by omega), if_pos (by omega), l2]
  · refine And.intro rfl (And.intro rfl (And.intro rfl (Or.inl ⟨?_, rfl⟩)))
    show ((lnF n 44 : Nat) : Int) = abtF n q W.1 T.1 a
    rw [e, if_neg (by omega), if_neg (by omega), if_neg (by omega), if_neg (by omega), if_neg (by omega), if_neg (by omega), if_neg (by omega), if_pos (by omega), l44]
  · refine And.intro rfl (And.intro rfl (Or.inl ⟨?_, rfl⟩))
    show M0 39 1 = abtF n q W.1 T.1 a
    rw [e, if_neg (by omega), if_neg (by omega), if_neg (by omega), if_neg (by omega), if_neg (by omega), if_neg (by omega), if_neg (by omega), if_neg (by omega), if_pos (by omega)]
    exact hT.1
theorem imX7_about {l : Launch} {Z : ZT} (hZ : ZOk Z) : Impl l Z yX7_about cX7_about 2 (some .int) 3 (c_aboutX (zN Z)) := mkImpl (rt := 1) (CL := [(132, some 1, (c_used (zN Z))), (135, some 1, (c_highE (zN Z))), (141, some 1, (c_liveH (zN Z)))]) hZ.1 hZ.2.1 (by decide +kernel) kX7_about fwX7 iwX7 lwX7 trivial (Nat.le_of_ble_eq_true rfl) (List.forall_mem_cons.mpr ⟨gX7_132 hZ (by decide), List.forall_mem_cons.mpr ⟨gX7_135 hZ (by decide), List.forall_mem_cons.mpr ⟨gX7_141 hZ (by decide), fun q h => absurd h List.not_mem_nil⟩⟩⟩) ((v_aboutX (zN Z)))
