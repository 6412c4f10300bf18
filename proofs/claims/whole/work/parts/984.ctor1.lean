theorem ofNat_5 (n : Nat) : Int32.ofNat n + Int32.ofInt 5 = Int32.ofNat (n + 5) := by
  rw [Int32.ofNat_add]
  rfl
/-- the nearest of lo .. hi -/
def nrN (x : Int32) (lo hi : Int) : Nat := (if x.toInt < lo then lo else if hi < x.toInt then hi else x.toInt).toNat
theorem nrN_le (x : Int32) (lo hi : Int) (h0 : 0 ≤ lo) (h1 : lo ≤ hi) : nrN x lo hi ≤ hi.toNat := by
  unfold nrN
  split
  · omega
  · split <;> omega
theorem nrN_ge (x : Int32) (lo hi : Int) (h0 : 0 ≤ lo) (h1 : lo ≤ hi) : lo.toNat ≤ nrN x lo hi := by
  unfold nrN
  split
  · omega
  · split <;> omega
theorem nrN_1 {x : Int32} {lo hi : Int} (h0 : 0 ≤ lo) (h : x.toInt < lo) : Int32.ofNat (nrN x lo hi) = Int32.ofInt lo := by
  unfold nrN
  rw [if_pos h, ← Int32.ofInt_eq_ofNat, Int.toNat_of_nonneg h0]
theorem nrN_2 {x : Int32} {lo hi : Int} (h0 : 0 ≤ lo) (h1 : lo ≤ hi) (h : ¬ x.toInt < lo) (h2 : hi < x.toInt) : Int32.ofNat (nrN x lo hi) = Int32.ofInt hi := by
  unfold nrN
  rw [if_neg h, if_pos h2, ← Int32.ofInt_eq_ofNat, Int.toNat_of_nonneg (by omega)]
theorem nrN_3 {x : Int32} {lo hi : Int} (h0 : 0 ≤ lo) (h : ¬ x.toInt < lo) (h2 : ¬ hi < x.toInt) : Int32.ofNat (nrN x lo hi) = x := by
  unfold nrN
  rw [if_neg h, if_neg h2, ← Int32.ofInt_eq_ofNat, Int.toNat_of_nonneg (by omega)]
  exact Int32.ofInt_toInt x
theorem mm_link : Jvm.Cond.methodLink RX7 76 Lib.Math.min.name ∈ BIG ∧ Jvm.Cond.static Lib.Math.min.name ∈ BIG ∧ Jvm.Cond.code Lib.Math.min.name Lib.Math.min.code 2 (some .int) ∈ BIG ∧ Jvm.Cond.methodLink RX7 82 Lib.Math.max.name ∈ BIG ∧ Jvm.Cond.static Lib.Math.max.name ∈ BIG ∧ Jvm.Cond.code Lib.Math.max.name Lib.Math.max.code 2 (some .int) ∈ BIG ∧ Jvm.Cond.initialized "java/lang/Math" ∈ BIG := ⟨bigAt 77 (by decide +kernel) (by decide +kernel), bigAt 78 (by decide +kernel) (by decide +kernel), bigAt 79 (by decide +kernel) (by decide +kernel), bigAt 80 (by decide +kernel) (by decide +kernel), bigAt 81 (by decide +kernel) (by decide +kernel), bigAt 82 (by decide +kernel) (by decide +kernel), bigAt 54 (by decide +kernel) (by decide +kernel)⟩
set_option maxHeartbeats 4000000 in
theorem s_X7nearest (l : Launch) (x : Int32) (lo hi : Int) (h0 : 0 ≤ lo) (h1 : lo ≤ hi) (h2 : hi < 20000) : Sta l yX7_nearest cX7_nearest 3 1 (fun _ => True) [.int x, .int (Int32.ofInt lo), .int (Int32.ofInt hi)] (Int32.ofNat (nrN x lo hi)) := by
  refine Met.ofW (cc := cX7_nearest) (maxL := 3) (ret := some .int) (by decide) rfl ?_
  intro p e s m args below meth c s₁ B hml hv
  obtain ⟨rfl, -⟩ := hv
  have hx := B.exec
  have hb := B.bytes
  have hts0 := atoms_spec (ws := WSy yX7_nearest cX7_nearest 3 (some .int)) B.pre
  have hts : ∀ w ∈ BIG, w.before _ s = true := fun w hw => hts0 w (List.mem_cons_of_mem _ hw)
  have hown : s.vm.findClass RX7 = some m.cls := findClass_of_methodNamed B.named
  have hlocks := B.notSynchronized
  have hl := lv_entry ([.int x, .int (Int32.ofInt lo), .int (Int32.ofInt hi)]) (n := 3) (Nat.le_of_ble_eq_true rfl)
  rw [lg_entry_eq]
  generalize (lg_sl ([.int x, .int (Int32.ofInt lo), .int (Int32.ofInt hi)]) ++ List.replicate (3 - (lg_sl ([.int x, .int (Int32.ofInt lo), .int (Int32.ofInt hi)])).length) Slot.unset).toArray = ls at hl ⊢
  have hl : lv_has ls 3 [(0, .int x), (1, .int (Int32.ofInt lo)), (2, .int (Int32.ofInt hi))] := hl
  refine lv_iload_n hx hb (by decide +kernel : decode cX7_nearest 0 = .ok (.iload_n 1, 1)) rfl (lv_at hl 1 rfl) ?_
  refine lv_iload_n hx hb (by decide +kernel : decode cX7_nearest 1 = .ok (.iload_n 2, 1)) rfl (lv_at hl 2 rfl) ?_
  refine lv_iload_n hx hb (by decide +kernel : decode cX7_nearest 2 = .ok (.iload_n 0, 1)) rfl (lv_at hl 0 rfl) ?_
  refine va_mmin hx hb (by rw [hml, hl.1]) hown (hts _ mm_link.1) (hts _ mm_link.2.1) (hts _ mm_link.2.2.2.2.2.2) (hts _ mm_link.2.2.1) (Nat.le_of_ble_eq_true rfl) (Nat.le_of_ble_eq_true rfl) (Nat.le_refl _) (Nat.le_refl _) (by decide +kernel : decode cX7_nearest 3 = .ok (.invokestatic 76, 3)) ?_
  refine va_mmax hx hb (by rw [hml, hl.1]) hown (hts _ mm_link.2.2.2.1) (hts _ mm_link.2.2.2.2.1) (hts _ mm_link.2.2.2.2.2.2) (hts _ mm_link.2.2.2.2.2.1) (Nat.le_of_ble_eq_true rfl) (Nat.le_of_ble_eq_true rfl) (Nat.le_refl _) (Nat.le_refl _) (by decide +kernel : decode cX7_nearest 6 = .ok (.invokestatic 82, 3)) ?_
  have il : (Int32.ofInt lo).toInt = lo := inR_to ⟨by omega, by omega⟩
  have ih : (Int32.ofInt hi).toInt = hi := inR_to ⟨by omega, by omega⟩
  have key : (if Int32.ofInt lo < (if x < Int32.ofInt hi then x else Int32.ofInt hi) then (if x < Int32.ofInt hi then x else Int32.ofInt hi) else Int32.ofInt lo) = Int32.ofNat (nrN x lo hi) := by
    by_cases c1 : x.toInt < lo
    · rw [nrN_1 h0 c1]
      have d1 : x < Int32.ofInt hi := by rw [Int32.lt_iff_toInt_lt, ih]; omega
      rw [if_pos d1, if_neg (by rw [Int32.lt_iff_toInt_lt, il]; omega)]
    · by_cases c2 : hi < x.toInt
      · rw [nrN_2 h0 h1 c1 c2]
        have d1 : ¬ x < Int32.ofInt hi := by rw [Int32.lt_iff_toInt_lt, ih]; omega
        rw [if_neg d1]
        by_cases d2 : Int32.ofInt lo < Int32.ofInt hi
        · rw [if_pos d2]
        · rw [if_neg d2]
          rw [Int32.lt_iff_toInt_lt, il, ih] at d2
          rw [show lo = hi by omega]
      · rw [nrN_3 h0 c1 c2]
        by_cases d1 : x < Int32.ofInt hi
        · rw [if_pos d1]
          by_cases d2 : Int32.ofInt lo < x
          · rw [if_pos d2]
          · rw [if_neg d2]
            rw [Int32.lt_iff_toInt_lt, il] at d2
            apply Int32.toInt_inj.mp
            rw [il]
            omega
        · rw [if_neg d1]
          have e1 : Int32.ofInt hi = x := by
            rw [Int32.lt_iff_toInt_lt, ih] at d1
            apply Int32.toInt_inj.mp
            rw [ih]
            omega
          rw [e1]
          by_cases d2 : Int32.ofInt lo < x
          · rw [if_pos d2]
          · rw [if_neg d2]
            rw [Int32.lt_iff_toInt_lt, il] at d2
            apply Int32.toInt_inj.mp
            rw [il]
            omega
  rw [key]
  exact W.iret hx hb B.returns (fun t ht hW => ⟨⟨_, (), rfl, rfl, trivial⟩, Nat.le_of_eq (by rw [ht]), fun q _ _ => by rw [ht]⟩) (fun q hq => by cases hq) (by decide +kernel : decode cX7_nearest 9 = .ok (.ireturn, 1))
set_option maxHeartbeats 4000000 in
theorem s_X8near (l : Launch) (x : Int32) (lo hi : Int) (h0 : 0 ≤ lo) (h1 : lo ≤ hi) (h2 : hi < 20000) : Sta l yX8_near cX8_near 3 1 (fun _ => True) [.int x, .int (Int32.ofInt lo), .int (Int32.ofInt hi)] (Int32.ofNat (nrN x lo hi)) := by
  refine Met.ofW (cc := cX8_near) (maxL := 3) (ret := some .int) (by decide) rfl ?_
  intro p e s m args below meth c s₁ B hml hv
  obtain ⟨rfl, -⟩ := hv
  have hx := B.exec
  have hb := B.bytes
  have hlocks := B.notSynchronized
  have hl := lv_entry ([.int x, .int (Int32.ofInt lo), .int (Int32.ofInt hi)]) (n := 3) (Nat.le_of_ble_eq_true rfl)
  rw [lg_entry_eq]
  generalize (lg_sl ([.int x, .int (Int32.ofInt lo), .int (Int32.ofInt hi)]) ++ List.replicate (3 - (lg_sl ([.int x, .int (Int32.ofInt lo), .int (Int32.ofInt hi)])).length) Slot.unset).toArray = ls at hl ⊢
  have hl : lv_has ls 3 [(0, .int x), (1, .int (Int32.ofInt lo)), (2, .int (Int32.ofInt hi))] := hl
  have il : (Int32.ofInt lo).toInt = lo := inR_to ⟨by omega, by omega⟩
  have ih : (Int32.ofInt hi).toInt = hi := inR_to ⟨by omega, by omega⟩
  have fin : ∀ r : Int32, r = Int32.ofNat (nrN x lo hi) → W p l e (headSpec (WSy yX8_near cX8_near 3 (some .int)) (rmc 1 0 0)).room s m [Value.int x, .int (Int32.ofInt lo), .int (Int32.ofInt hi)].toArray below meth c s.heap [] 0 0 (MQ below (va_Qi (fun r' (_ : Unit) => r' = Int32.ofNat (nrN x lo hi)) (fun _ _ => True) (fun _ => False)) [Value.int x, .int (Int32.ofInt lo), .int (Int32.ofInt hi)].toArray s 0 0 (fun _ => False)) (F0 m 19 ls [.int r]) := by
    intro r hr
    exact W.iret hx hb B.returns (fun t ht hW => ⟨⟨_, (), rfl, hr, trivial⟩, Nat.le_of_eq (by rw [ht]), fun q _ _ => by rw [ht]⟩) (fun q hq => by cases hq) (by decide +kernel : decode cX8_near 19 = .ok (.ireturn, 1))
  refine lv_iload_n hx hb (by decide +kernel : decode cX8_near 0 = .ok (.iload_n 0, 1)) rfl (lv_at hl 0 rfl) ?_
  refine lv_iload_n hx hb (by decide +kernel : decode cX8_near 1 = .ok (.iload_n 1, 1)) rfl (lv_at hl 1 rfl) ?_
  refine lv_icmp_ge hx hb (tgt := 9) (by decide +kernel : decode cX8_near 2 = .ok (.if_icmp .ge 7, 3)) rfl (fun hc => ?_) (fun hc => ?_)
  · rw [Int32.le_iff_toInt_le, il] at hc
    refine lv_iload_n hx hb (by decide +kernel : decode cX8_near 9 = .ok (.iload_n 0, 1)) rfl (lv_at hl 0 rfl) ?_
    refine lv_iload_n hx hb (by decide +kernel : decode cX8_near 10 = .ok (.iload_n 2, 1)) rfl (lv_at hl 2 rfl) ?_
    refine lv_icmp_le hx hb (tgt := 18) (by decide +kernel : decode cX8_near 11 = .ok (.if_icmp .le 7, 3)) rfl (fun hd => ?_) (fun hd => ?_)
    · rw [Int32.le_iff_toInt_le, ih] at hd
      refine lv_iload_n hx hb (by decide +kernel : decode cX8_near 18 = .ok (.iload_n 0, 1)) rfl (lv_at hl 0 rfl) ?_
      exact fin _ (nrN_3 h0 (by omega) (by omega)).symm
    · rw [Int32.le_iff_toInt_le, ih] at hd
      refine lv_iload_n hx hb (by decide +kernel : decode cX8_near 14 = .ok (.iload_n 2, 1)) rfl (lv_at hl 2 rfl) ?_
      refine lv_goto hx hb (tgt := 19) (by decide +kernel : decode cX8_near 15 = .ok (.goto 4, 3)) rfl ?_
      exact fin _ (nrN_2 h0 h1 (by omega) (by omega)).symm
  · rw [Int32.le_iff_toInt_le, il] at hc
    refine lv_iload_n hx hb (by decide +kernel : decode cX8_near 5 = .ok (.iload_n 1, 1)) rfl (lv_at hl 1 rfl) ?_
    refine lv_goto hx hb (tgt := 19) (by decide +kernel : decode cX8_near 6 = .ok (.goto 13, 3)) rfl ?_
    exact fin _ (nrN_1 h0 (by omega)).symm
/-! ===== printed by gen_ctor.py: the constructors ===== -/
def w_X5 (cI cB : ClassId) (h0 : Nat) (a : Nat → Nat) : va_W := [(h0, .inr (5, [.ref (a 0), .int 0]))] ++ [(a 0, aI cI 130)]
set_option maxHeartbeats 4000000 in
set_option maxRecDepth 100000 in
theorem c_X5init (l : Launch) (D : va_G) (cI cB : ClassId) : Cst l yX5_init cX5_init 1 1 1 130 D cI cB 5 [] (w_X5 cI cB) := by
  refine mkCst (by decide) (Nat.le_of_ble_eq_true rfl) ?_
  intro p e s m below meth c h0 A Q X hin hret
  refine gw_al X (by decide +kernel : decode cX5_init 0 = .ok (.aload_n 0, 1)) rfl 0 rfl ?_
  refine gw_obj X (bigAt 129 (by decide +kernel) (by decide +kernel)) (by decide +kernel : decode cX5_init 1 = .ok (.invokespecial 3, 3)) ⟨(Nat.le_of_ble_eq_true rfl), (Nat.le_of_ble_eq_true rfl)⟩ ?_
  refine gw_al X (by decide +kernel : decode cX5_init 4 = .ok (.aload_n 0, 1)) rfl 0 rfl ?_
  refine gw_sp X (by decide +kernel : decode cX5_init 5 = .ok (.sipush 130, 3)) (by decide) ?_
  refine gw_newi X 130 rfl (Nat.le_of_ble_eq_true rfl) (by decide +kernel : decode cX5_init 8 = .ok (.newarray .int, 2)) (Nat.le_of_ble_eq_true rfl) (Nat.le_of_ble_eq_true rfl) (fun q1 => ?_)
  refine gw_wide (c2 := 1) (s2 := 130) (Nat.le_of_ble_eq_true rfl) (Nat.le_of_ble_eq_true rfl) ?_
  refine gw_putF X 0 hin (by decide) (by decide) (Nat.le_of_ble_eq_true rfl) (bigAt 130 (by decide +kernel) (by decide +kernel)) rfl rfl rfl rfl (by decide +kernel : decode cX5_init 10 = .ok (.putfield 9, 3)) ?_
  refine gw_ws (ws2 := (h0, .inr (5, [.ref q1, .int 0])) :: ([(q1, aI cI 130)])) rfl ?_
  exact hret (fun k => [q1].getD k 0) _ _ (by decide +kernel : decode cX5_init 13 = .ok (.return_, 1))
def w_X6 (cI cB : ClassId) (h0 : Nat) (a : Nat → Nat) : va_W := [(h0, .inr (6, [.ref (a 0), .int 0]))] ++ [(a 0, aI cI 1000)]
set_option maxHeartbeats 4000000 in
set_option maxRecDepth 100000 in
theorem c_X6init (l : Launch) (D : va_G) (cI cB : ClassId) : Cst l yX6_init cX6_init 1 1 1 1000 D cI cB 6 [] (w_X6 cI cB) := by
  refine mkCst (by decide) (Nat.le_of_ble_eq_true rfl) ?_
  intro p e s m below meth c h0 A Q X hin hret
  refine gw_al X (by decide +kernel : decode cX6_init 0 = .ok (.aload_n 0, 1)) rfl 0 rfl ?_
  refine gw_obj X (bigAt 178 (by decide +kernel) (by decide +kernel)) (by decide +kernel : decode cX6_init 1 = .ok (.invokespecial 3, 3)) ⟨(Nat.le_of_ble_eq_true rfl), (Nat.le_of_ble_eq_true rfl)⟩ ?_
  refine gw_al X (by decide +kernel : decode cX6_init 4 = .ok (.aload_n 0, 1)) rfl 0 rfl ?_
  refine gw_sp X (by decide +kernel : decode cX6_init 5 = .ok (.sipush 1000, 3)) (by decide) ?_
  refine gw_newi X 1000 rfl (Nat.le_of_ble_eq_true rfl) (by decide +kernel : decode cX6_init 8 = .ok (.newarray .int, 2)) (Nat.le_of_ble_eq_true rfl) (Nat.le_of_ble_eq_true rfl) (fun q1 => ?_)
  refine gw_wide (c2 := 1) (s2 := 1000) (Nat.le_of_ble_eq_true rfl) (Nat.le_of_ble_eq_true rfl) ?_
  refine gw_putF X 0 hin (by decide) (by decide) (Nat.le_of_ble_eq_true rfl) (bigAt 179 (by decide +kernel) (by decide +kernel)) rfl rfl rfl rfl (by decide +kernel : decode cX6_init 10 = .ok (.putfield 9, 3)) ?_
  refine gw_ws (ws2 := (h0, .inr (6, [.ref q1, .int 0])) :: ([(q1, aI cI 1000)])) rfl ?_
  exact hret (fun k => [q1].getD k 0) _ _ (by decide +kernel : decode cX6_init 13 = .ok (.return_, 1))
def w_X3 (cI cB : ClassId) (h0 : Nat) (a : Nat → Nat) : va_W := [(h0, .inr (3, [.ref (a 0), .int 0]))] ++ [(a 0, aI cI 960)]
set_option maxHeartbeats 4000000 in
set_option maxRecDepth 100000 in
theorem c_X3init (l : Launch) (D : va_G) (cI cB : ClassId) : Cst l yX3_init cX3_init 1 1 1 960 D cI cB 3 [] (w_X3 cI cB) := by
  refine mkCst (by decide) (Nat.le_of_ble_eq_true rfl) ?_
  intro p e s m below meth c h0 A Q X hin hret
  refine gw_al X (by decide +kernel : decode cX3_init 0 = .ok (.aload_n 0, 1)) rfl 0 rfl ?_
  refine gw_obj X (bigAt 192 (by decide +kernel) (by decide +kernel)) (by decide +kernel : decode cX3_init 1 = .ok (.invokespecial 3, 3)) ⟨(Nat.le_of_ble_eq_true rfl), (Nat.le_of_ble_eq_true rfl)⟩ ?_
  refine gw_al X (by decide +kernel : decode cX3_init 4 = .ok (.aload_n 0, 1)) rfl 0 rfl ?_
  refine gw_sp X (by decide +kernel : decode cX3_init 5 = .ok (.sipush 960, 3)) (by decide) ?_
  refine gw_newi X 960 rfl (Nat.le_of_ble_eq_true rfl) (by decide +kernel : decode cX3_init 8 = .ok (.newarray .int, 2)) (Nat.le_of_ble_eq_true rfl) (Nat.le_of_ble_eq_true rfl) (fun q1 => ?_)
  refine gw_wide (c2 := 1) (s2 := 960) (Nat.le_of_ble_eq_true rfl) (Nat.le_of_ble_eq_true rfl) ?_
  refine gw_putF X 0 hin (by decide) (by decide) (Nat.le_of_ble_eq_true rfl) (bigAt 193 (by decide +kernel) (by decide +kernel)) rfl rfl rfl rfl (by decide +kernel : decode cX3_init 10 = .ok (.putfield 9, 3)) ?_
  refine gw_ws (ws2 := (h0, .inr (3, [.ref q1, .int 0])) :: ([(q1, aI cI 960)])) rfl ?_
  exact hret (fun k => [q1].getD k 0) _ _ (by decide +kernel : decode cX3_init 13 = .ok (.return_, 1))
def w_X0 (cI cB : ClassId) (h0 : Nat) (a : Nat → Nat) : va_W := [(h0, .inr (0, [.ref (a 0), .ref (a 2), .ref (a 4), .ref (a 6), .ref (a 8), .ref (a 10), .ref (a 12)]))] ++ w_X5 cI cB (a 0) (fun k => a (1 + k)) ++ w_X5 cI cB (a 2) (fun k => a (3 + k)) ++ w_X5 cI cB (a 4) (fun k => a (5 + k)) ++ w_X5 cI cB (a 6) (fun k => a (7 + k)) ++ w_X5 cI cB (a 8) (fun k => a (9 + k)) ++ w_X5 cI cB (a 10) (fun k => a (11 + k)) ++ w_X5 cI cB (a 12) (fun k => a (13 + k))
set_option maxHeartbeats 4000000 in
set_option maxRecDepth 100000 in
theorem c_X0init (l : Launch) (D : va_G) (cI cB : ClassId) : Cst l yX0_init cX0_init 1 2 14 924 D cI cB 0 [] (w_X0 cI cB) := by
  refine mkCst (by decide) (Nat.le_of_ble_eq_true rfl) ?_
  intro p e s m below meth c h0 A Q X hin hret
  refine gw_al X (by decide +kernel : decode cX0_init 0 = .ok (.aload_n 0, 1)) rfl 0 rfl ?_
  refine gw_obj X (bigAt 123 (by decide +kernel) (by decide +kernel)) (by decide +kernel : decode cX0_init 1 = .ok (.invokespecial 3, 3)) ⟨(Nat.le_of_ble_eq_true rfl), (Nat.le_of_ble_eq_true rfl)⟩ ?_
  refine gw_al X (by decide +kernel : decode cX0_init 4 = .ok (.aload_n 0, 1)) rfl 0 rfl ?_
  refine gw_new X (ci := 5) (by decide) ⟨(bigAt 124 (by decide +kernel) (by decide +kernel)), (bigAt 125 (by decide +kernel) (by decide +kernel)), nw_RX5⟩ (by decide +kernel : decode cX0_init 5 = .ok (.new 9, 3)) (Nat.le_of_ble_eq_true rfl) (Nat.le_of_ble_eq_true rfl) (fun q1 => ?_)
  refine gw_wide (c2 := 1) (s2 := 2) (Nat.le_of_ble_eq_true rfl) (Nat.le_of_ble_eq_true rfl) ?_
  refine gw_dup X (by decide +kernel : decode cX0_init 8 = .ok (.dup, 1)) ?_
  refine gw_initN X (As := []) (rest := [.ref q1, .ref h0]) (c_X5init l D cI cB) (X.2.2.2.2.2.2.1.2.1) iw_yX5_init nw_RX5 cw_yX5_init rfl ⟨by decide, by decide, by show _ = some 0; decide +kernel⟩ ⟨(Nat.le_of_ble_eq_true rfl), (Nat.le_of_ble_eq_true rfl)⟩ (Nat.le_of_ble_eq_true rfl) (by decide +kernel : decode cX0_init 9 = .ok (.invokespecial 11, 3)) (Nat.le_of_ble_eq_true rfl) (Nat.le_of_ble_eq_true rfl) (fun a1 => ?_)
  refine gw_wide (c2 := 2) (s2 := 132) (Nat.le_of_ble_eq_true rfl) (Nat.le_of_ble_eq_true rfl) ?_
  refine gw_putF X 0 hin (by decide) (by decide) (Nat.le_of_ble_eq_true rfl) (bigAt 146 (by decide +kernel) (by decide +kernel)) rfl rfl rfl rfl (by decide +kernel : decode cX0_init 12 = .ok (.putfield 12, 3)) ?_
  refine gw_ws (ws2 := (h0, .inr (0, [.ref q1, .null, .null, .null, .null, .null, .null])) :: (w_X5 cI cB q1 a1)) rfl ?_
  refine gw_al X (by decide +kernel : decode cX0_init 15 = .ok (.aload_n 0, 1)) rfl 0 rfl ?_
  refine gw_new X (ci := 5) (by decide) ⟨(bigAt 124 (by decide +kernel) (by decide +kernel)), (bigAt 125 (by decide +kernel) (by decide +kernel)), nw_RX5⟩ (by decide +kernel : decode cX0_init 16 = .ok (.new 9, 3)) (Nat.le_of_ble_eq_true rfl) (Nat.le_of_ble_eq_true rfl) (fun q2 => ?_)
  refine gw_wide (c2 := 3) (s2 := 134) (Nat.le_of_ble_eq_true rfl) (Nat.le_of_ble_eq_true rfl) ?_
  refine gw_dup X (by decide +kernel : decode cX0_init 19 = .ok (.dup, 1)) ?_
  refine gw_initN X (As := []) (rest := [.ref q2, .ref h0]) (c_X5init l D cI cB) (X.2.2.2.2.2.2.1.2.1) iw_yX5_init nw_RX5 cw_yX5_init rfl ⟨by decide, by decide, by show _ = some 0; decide +kernel⟩ ⟨(Nat.le_of_ble_eq_true rfl), (Nat.le_of_ble_eq_true rfl)⟩ (Nat.le_of_ble_eq_true rfl) (by decide +kernel : decode cX0_init 20 = .ok (.invokespecial 11, 3)) (Nat.le_of_ble_eq_true rfl) (Nat.le_of_ble_eq_true rfl) (fun a2 => ?_)
  refine gw_wide (c2 := 4) (s2 := 264) (Nat.le_of_ble_eq_true rfl) (Nat.le_of_ble_eq_true rfl) ?_
  refine gw_putF X 1 hin (by decide) (by decide) (Nat.le_of_ble_eq_true rfl) (bigAt 149 (by decide +kernel) (by decide +kernel)) rfl rfl rfl rfl (by decide +kernel : decode cX0_init 23 = .ok (.putfield 18, 3)) ?_
  refine gw_ws (ws2 := (h0, .inr (0, [.ref q1, .ref q2, .null, .null, .null, .null, .null])) :: (w_X5 cI cB q1 a1 ++ w_X5 cI cB q2 a2)) rfl ?_
  refine gw_al X (by decide +kernel : decode cX0_init 26 = .ok (.aload_n 0, 1)) rfl 0 rfl ?_
  refine gw_new X (ci := 5) (by decide) ⟨(bigAt 124 (by decide +kernel) (by decide +kernel)), (bigAt 125 (by decide +kernel) (by decide +kernel)), nw_RX5⟩ (by decide +kernel : decode cX0_init 27 = .ok (.new 9, 3)) (Nat.le_of_ble_eq_true rfl) (Nat.le_of_ble_eq_true rfl) (fun q3 => ?_)
  refine gw_wide (c2 := 5) (s2 := 266) (Nat.le_of_ble_eq_true rfl) (Nat.le_of_ble_eq_true rfl) ?_
  refine gw_dup X (by decide +kernel : decode cX0_init 30 = .ok (.dup, 1)) ?_
  refine gw_initN X (As := []) (rest := [.ref q3, .ref h0]) (c_X5init l D cI cB) (X.2.2.2.2.2.2.1.2.1) iw_yX5_init nw_RX5 cw_yX5_init rfl ⟨by decide, by decide, by show _ = some 0; decide +kernel⟩ ⟨(Nat.le_of_ble_eq_true rfl), (Nat.le_of_ble_eq_true rfl)⟩ (Nat.le_of_ble_eq_true rfl) (by decide +kernel : decode cX0_init 31 = .ok (.invokespecial 11, 3)) (Nat.le_of_ble_eq_true rfl) (Nat.le_of_ble_eq_true rfl) (fun a3 => ?_)
  refine gw_wide (c2 := 6) (s2 := 396) (Nat.le_of_ble_eq_true rfl) (Nat.le_of_ble_eq_true rfl) ?_
  refine gw_putF X 2 hin (by decide) (by decide) (Nat.le_of_ble_eq_true rfl) (bigAt 151 (by decide +kernel) (by decide +kernel)) rfl rfl rfl rfl (by decide +kernel : decode cX0_init 34 = .ok (.putfield 21, 3)) ?_
  refine gw_ws (ws2 := (h0, .inr (0, [.ref q1, .ref q2, .ref q3, .null, .null, .null, .null])) :: (w_X5 cI cB q1 a1 ++ w_X5 cI cB q2 a2 ++ w_X5 cI cB q3 a3)) rfl ?_
  refine gw_al X (by decide +kernel : decode cX0_init 37 = .ok (.aload_n 0, 1)) rfl 0 rfl ?_
  refine gw_new X (ci := 5) (by decide) ⟨(bigAt 124 (by decide +kernel) (by decide +kernel)), (bigAt 125 (by decide +kernel) (by decide +kernel)), nw_RX5⟩ (by decide +kernel : decode cX0_init 38 = .ok (.new 9, 3)) (Nat.le_of_ble_eq_true rfl) (Nat.le_of_ble_eq_true rfl) (fun q4 => ?_)
  refine gw_wide (c2 := 7) (s2 := 398) (Nat.le_of_ble_eq_true rfl) (Nat.le_of_ble_eq_true rfl) ?_
  refine gw_dup X (by decide +kernel : decode cX0_init 41 = .ok (.dup, 1)) ?_
  refine gw_initN X (As := []) (rest := [.ref q4, .ref h0]) (c_X5init l D cI cB) (X.2.2.2.2.2.2.1.2.1) iw_yX5_init nw_RX5 cw_yX5_init rfl ⟨by decide, by decide, by show _ = some 0; decide +kernel⟩ ⟨(Nat.le_of_ble_eq_true rfl), (Nat.le_of_ble_eq_true rfl)⟩ (Nat.le_of_ble_eq_true rfl) (by decide +kernel : decode cX0_init 42 = .ok (.invokespecial 11, 3)) (Nat.le_of_ble_eq_true rfl) (Nat.le_of_ble_eq_true rfl) (fun a4 => ?_)
  refine gw_wide (c2 := 8) (s2 := 528) (Nat.le_of_ble_eq_true rfl) (Nat.le_of_ble_eq_true rfl) ?_
  refine gw_putF X 3 hin (by decide) (by decide) (Nat.le_of_ble_eq_true rfl) (bigAt 154 (by decide +kernel) (by decide +kernel)) rfl rfl rfl rfl (by decide +kernel : decode cX0_init 45 = .ok (.putfield 24, 3)) ?_
  refine gw_ws (ws2 := (h0, .inr (0, [.ref q1, .ref q2, .ref q3, .ref q4, .null, .null, .null])) :: (w_X5 cI cB q1 a1 ++ w_X5 cI cB q2 a2 ++ w_X5 cI cB q3 a3 ++ w_X5 cI cB q4 a4)) rfl ?_
  refine gw_al X (by decide +kernel : decode cX0_init 48 = .ok (.aload_n 0, 1)) rfl 0 rfl ?_
  refine gw_new X (ci := 5) (by decide) ⟨(bigAt 124 (by decide +kernel) (by decide +kernel)), (bigAt 125 (by decide +kernel) (by decide +kernel)), nw_RX5⟩ (by decide +kernel : decode cX0_init 49 = .ok (.new 9, 3)) (Nat.le_of_ble_eq_true rfl) (Nat.le_of_ble_eq_true rfl) (fun q5 => ?_)
  refine gw_wide (c2 := 9) (s2 := 530) (Nat.le_of_ble_eq_true rfl) (Nat.le_of_ble_eq_true rfl) ?_
  refine gw_dup X (by decide +kernel : decode cX0_init 52 = .ok (.dup, 1)) ?_
  refine gw_initN X (As := []) (rest := [.ref q5, .ref h0]) (c_X5init l D cI cB) (X.2.2.2.2.2.2.1.2.1) iw_yX5_init nw_RX5 cw_yX5_init rfl ⟨by decide, by decide, by show _ = some 0; decide +kernel⟩ ⟨(Nat.le_of_ble_eq_true rfl), (Nat.le_of_ble_eq_true rfl)⟩ (Nat.le_of_ble_eq_true rfl) (by decide +kernel : decode cX0_init 53 = .ok (.invokespecial 11, 3)) (Nat.le_of_ble_eq_true rfl) (Nat.le_of_ble_eq_true rfl) (fun a5 => ?_)
  refine gw_wide (c2 := 10) (s2 := 660) (Nat.le_of_ble_eq_true rfl) (Nat.le_of_ble_eq_true rfl) ?_
  refine gw_putF X 4 hin (by decide) (by decide) (Nat.le_of_ble_eq_true rfl) (bigAt 155 (by decide +kernel) (by decide +kernel)) rfl rfl rfl rfl (by decide +kernel : decode cX0_init 56 = .ok (.putfield 27, 3)) ?_
  refine gw_ws (ws2 := (h0, .inr (0, [.ref q1, .ref q2, .ref q3, .ref q4, .ref q5, .null, .null])) :: (w_X5 cI cB q1 a1 ++ w_X5 cI cB q2 a2 ++ w_X5 cI cB q3 a3 ++ w_X5 cI cB q4 a4 ++ w_X5 cI cB q5 a5)) rfl ?_
  refine gw_al X (by decide +kernel : decode cX0_init 59 = .ok (.aload_n 0, 1)) rfl 0 rfl ?_
  refine gw_new X (ci := 5) (by decide) ⟨(bigAt 124 (by decide +kernel) (by decide +kernel)), (bigAt 125 (by decide +kernel) (by decide +kernel)), nw_RX5⟩ (by decide +kernel : decode cX0_init 60 = .ok (.new 9, 3)) (Nat.le_of_ble_eq_true rfl) (Nat.le_of_ble_eq_true rfl) (fun q6 => ?_)
  refine gw_wide (c2 := 11) (s2 := 662) (Nat.le_of_ble_eq_true rfl) (Nat.le_of_ble_eq_true rfl) ?_
  refine gw_dup X (by decide +kernel : decode cX0_init 63 = .ok (.dup, 1)) ?_
  refine gw_initN X (As := []) (rest := [.ref q6, .ref h0]) (c_X5init l D cI cB) (X.2.2.2.2.2.2.1.2.1) iw_yX5_init nw_RX5 cw_yX5_init rfl ⟨by decide, by decide, by show _ = some 0; decide +kernel⟩ ⟨(Nat.le_of_ble_eq_true rfl), (Nat.le_of_ble_eq_true rfl)⟩ (Nat.le_of_ble_eq_true rfl) (by decide +kernel : decode cX0_init 64 = .ok (.invokespecial 11, 3)) (Nat.le_of_ble_eq_true rfl) (Nat.le_of_ble_eq_true rfl) (fun a6 => ?_)
  refine gw_wide (c2 := 12) (s2 := 792) (Nat.le_of_ble_eq_true rfl) (Nat.le_of_ble_eq_true rfl) ?_
  refine gw_putF X 5 hin (by decide) (by decide) (Nat.le_of_ble_eq_true rfl) (bigAt 156 (by decide +kernel) (by decide +kernel)) rfl rfl rfl rfl (by decide +kernel : decode cX0_init 67 = .ok (.putfield 30, 3)) ?_
  refine gw_ws (ws2 := (h0, .inr (0, [.ref q1, .ref q2, .ref q3, .ref q4, .ref q5, .ref q6, .null])) :: (w_X5 cI cB q1 a1 ++ w_X5 cI cB q2 a2 ++ w_X5 cI cB q3 a3 ++ w_X5 cI cB q4 a4 ++ w_X5 cI cB q5 a5 ++ w_X5 cI cB q6 a6)) rfl ?_
  refine gw_al X (by decide +kernel : decode cX0_init 70 = .ok (.aload_n 0, 1)) rfl 0 rfl ?_
  refine gw_new X (ci := 5) (by decide) ⟨(bigAt 124 (by decide +kernel) (by decide +kernel)), (bigAt 125 (by decide +kernel) (by decide +kernel)), nw_RX5⟩ (by decide +kernel : decode cX0_init 71 = .ok (.new 9, 3)) (Nat.le_of_ble_eq_true rfl) (Nat.le_of_ble_eq_true rfl) (fun q7 => ?_)
  refine gw_wide (c2 := 13) (s2 := 794) (Nat.le_of_ble_eq_true rfl) (Nat.le_of_ble_eq_true rfl) ?_
  refine gw_dup X (by decide +kernel : decode cX0_init 74 = .ok (.dup, 1)) ?_
  refine gw_initN X (As := []) (rest := [.ref q7, .ref h0]) (c_X5init l D cI cB) (X.2.2.2.2.2.2.1.2.1) iw_yX5_init nw_RX5 cw_yX5_init rfl ⟨by decide, by decide, by show _ = some 0; decide +kernel⟩ ⟨(Nat.le_of_ble_eq_true rfl), (Nat.le_of_ble_eq_true rfl)⟩ (Nat.le_of_ble_eq_true rfl) (by decide +kernel : decode cX0_init 75 = .ok (.invokespecial 11, 3)) (Nat.le_of_ble_eq_true rfl) (Nat.le_of_ble_eq_true rfl) (fun a7 => ?_)
  refine gw_wide (c2 := 14) (s2 := 924) (Nat.le_of_ble_eq_true rfl) (Nat.le_of_ble_eq_true rfl) ?_
  refine gw_putF X 6 hin (by decide) (by decide) (Nat.le_of_ble_eq_true rfl) (bigAt 157 (by decide +kernel) (by decide +kernel)) rfl rfl rfl rfl (by decide +kernel : decode cX0_init 78 = .ok (.putfield 33, 3)) ?_
  refine gw_ws (ws2 := (h0, .inr (0, [.ref q1, .ref q2, .ref q3, .ref q4, .ref q5, .ref q6, .ref q7])) :: (w_X5 cI cB q1 a1 ++ w_X5 cI cB q2 a2 ++ w_X5 cI cB q3 a3 ++ w_X5 cI cB q4 a4 ++ w_X5 cI cB q5 a5 ++ w_X5 cI cB q6 a6 ++ w_X5 cI cB q7 a7)) rfl ?_
  exact hret (fun k => [q1, (a1 0), q2, (a2 0), q3, (a3 0), q4, (a4 0), q5, (a5 0), q6, (a6 0), q7, (a7 0)].getD k 0) _ _ (by decide +kernel : decode cX0_init 81 = .ok (.return_, 1))
def w_X1 (cI cB : ClassId) (nh nz : Nat) (h0 : Nat) (a : Nat → Nat) : va_W := [(h0, .inr (1, [.int (Int32.ofNat nh), .ref (a 0), .ref (a 1), .ref (a 2), .ref (a 3), .int 0, .int 0]))] ++ [(a 0, aI cI nz)] ++ [(a 1, aI cI (nh + 5))] ++ [(a 2, aI cI (nh + 5))] ++ [(a 3, aI cI nh)]
set_option maxHeartbeats 4000000 in
set_option maxRecDepth 100000 in
theorem c_X1init (l : Launch) (D : va_G) (cI cB : ClassId) {nh nz : Nat} (hh : nh ≤ 24) (hz : nz ≤ 800) : Cst l yX1_init cX1_init 3 1 4 882 D cI cB 1 [.int (Int32.ofNat nh), .int (Int32.ofNat nz)] (w_X1 cI cB nh nz) := by
  refine mkCst (by decide) (Nat.le_of_ble_eq_true rfl) ?_
  intro p e s m below meth c h0 A Q X hin hret
  refine gw_al X (by decide +kernel : decode cX1_init 0 = .ok (.aload_n 0, 1)) rfl 0 rfl ?_
  refine gw_obj X (bigAt 88 (by decide +kernel) (by decide +kernel)) (by decide +kernel : decode cX1_init 1 = .ok (.invokespecial 3, 3)) ⟨(Nat.le_of_ble_eq_true rfl), (Nat.le_of_ble_eq_true rfl)⟩ ?_
  refine gw_al X (by decide +kernel : decode cX1_init 4 = .ok (.aload_n 0, 1)) rfl 0 rfl ?_
  refine gw_il X (by decide +kernel : decode cX1_init 5 = .ok (.iload_n 1, 1)) rfl 1 rfl ?_
  refine gw_putF X 0 hin (by decide) (by decide) (Nat.le_of_ble_eq_true rfl) (bigAt 89 (by decide +kernel) (by decide +kernel)) rfl rfl rfl rfl (by decide +kernel : decode cX1_init 6 = .ok (.putfield 9, 3)) ?_
  refine gw_ws (ws2 := (h0, .inr (1, [.int (Int32.ofNat nh), .null, .null, .null, .null, .int 0, .int 0])) :: ([])) rfl ?_
  refine gw_al X (by decide +kernel : decode cX1_init 9 = .ok (.aload_n 0, 1)) rfl 0 rfl ?_
  refine gw_il X (by decide +kernel : decode cX1_init 10 = .ok (.iload_n 2, 1)) rfl 2 rfl ?_
  refine gw_newi X nz rfl (by omega) (by decide +kernel : decode cX1_init 11 = .ok (.newarray .int, 2)) (Nat.le_of_ble_eq_true rfl) (by show _ ≤ 882; omega) (fun q1 => ?_)
  refine gw_wide (c2 := 1) (s2 := 800) (Nat.le_of_ble_eq_true rfl) (by omega) ?_
  refine gw_putF X 1 hin (by decide) (by decide) (Nat.le_of_ble_eq_true rfl) (bigAt 91 (by decide +kernel) (by decide +kernel)) rfl rfl rfl rfl (by decide +kernel : decode cX1_init 13 = .ok (.putfield 15, 3)) ?_
  refine gw_ws (ws2 := (h0, .inr (1, [.int (Int32.ofNat nh), .ref q1, .null, .null, .null, .int 0, .int 0])) :: ([(q1, aI cI nz)])) rfl ?_
  refine gw_al X (by decide +kernel : decode cX1_init 16 = .ok (.aload_n 0, 1)) rfl 0 rfl ?_
  refine gw_il X (by decide +kernel : decode cX1_init 17 = .ok (.iload_n 1, 1)) rfl 1 rfl ?_
  refine gw_ic X (by decide +kernel : decode cX1_init 18 = .ok (.iconst 5, 1)) ?_
  refine gw_iadd X (by decide +kernel : decode cX1_init 19 = .ok (.iadd, 1)) ?_
  refine gw_newi X (nh + 5) (ofNat_5 nh) (by omega) (by decide +kernel : decode cX1_init 20 = .ok (.newarray .int, 2)) (Nat.le_of_ble_eq_true rfl) (by show _ ≤ 882; omega) (fun q2 => ?_)
  refine gw_wide (c2 := 2) (s2 := 829) (Nat.le_of_ble_eq_true rfl) (by omega) ?_
  refine gw_putF X 2 hin (by decide) (by decide) (Nat.le_of_ble_eq_true rfl) (bigAt 93 (by decide +kernel) (by decide +kernel)) rfl rfl rfl rfl (by decide +kernel : decode cX1_init 22 = .ok (.putfield 19, 3)) ?_
  refine gw_ws (ws2 := (h0, .inr (1, [.int (Int32.ofNat nh), .ref q1, .ref q2, .null, .null, .int 0, .int 0])) :: ([(q1, aI cI nz)] ++ [(q2, aI cI (nh + 5))])) rfl ?_
  refine gw_al X (by decide +kernel : decode cX1_init 25 = .ok (.aload_n 0, 1)) rfl 0 rfl ?_
  refine gw_il X (by decide +kernel : decode cX1_init 26 = .ok (.iload_n 1, 1)) rfl 1 rfl ?_
  refine gw_ic X (by decide +kernel : decode cX1_init 27 = .ok (.iconst 5, 1)) ?_
  refine gw_iadd X (by decide +kernel : decode cX1_init 28 = .ok (.iadd, 1)) ?_
  refine gw_newi X (nh + 5) (ofNat_5 nh) (by omega) (by decide +kernel : decode cX1_init 29 = .ok (.newarray .int, 2)) (Nat.le_of_ble_eq_true rfl) (by show _ ≤ 882; omega) (fun q3 => ?_)
  refine gw_wide (c2 := 3) (s2 := 858) (Nat.le_of_ble_eq_true rfl) (by omega) ?_
  refine gw_putF X 3 hin (by decide) (by decide) (Nat.le_of_ble_eq_true rfl) (bigAt 95 (by decide +kernel) (by decide +kernel)) rfl rfl rfl rfl (by decide +kernel : decode cX1_init 31 = .ok (.putfield 22, 3)) ?_
  refine gw_ws (ws2 := (h0, .inr (1, [.int (Int32.ofNat nh), .ref q1, .ref q2, .ref q3, .null, .int 0, .int 0])) :: ([(q1, aI cI nz)] ++ [(q2, aI cI (nh + 5))] ++ [(q3, aI cI (nh + 5))])) rfl ?_
  refine gw_al X (by decide +kernel : decode cX1_init 34 = .ok (.aload_n 0, 1)) rfl 0 rfl ?_
  refine gw_il X (by decide +kernel : decode cX1_init 35 = .ok (.iload_n 1, 1)) rfl 1 rfl ?_
  refine gw_newi X nh rfl (by omega) (by decide +kernel : decode cX1_init 36 = .ok (.newarray .int, 2)) (Nat.le_of_ble_eq_true rfl) (by show _ ≤ 882; omega) (fun q4 => ?_)
  refine gw_wide (c2 := 4) (s2 := 882) (Nat.le_of_ble_eq_true rfl) (by omega) ?_
  refine gw_putF X 4 hin (by decide) (by decide) (Nat.le_of_ble_eq_true rfl) (bigAt 97 (by decide +kernel) (by decide +kernel)) rfl rfl rfl rfl (by decide +kernel : decode cX1_init 38 = .ok (.putfield 25, 3)) ?_
  refine gw_ws (ws2 := (h0, .inr (1, [.int (Int32.ofNat nh), .ref q1, .ref q2, .ref q3, .ref q4, .int 0, .int 0])) :: ([(q1, aI cI nz)] ++ [(q2, aI cI (nh + 5))] ++ [(q3, aI cI (nh + 5))] ++ [(q4, aI cI nh)])) rfl ?_
  exact hret (fun k => [q1, q2, q3, q4].getD k 0) _ _ (by decide +kernel : decode cX1_init 41 = .ok (.return_, 1))
def w_X2 (cI cB : ClassId) (nz : Nat) (h0 : Nat) (a : Nat → Nat) : va_W := [(h0, .inr (2, [.ref (a 12), .int 0, .ref (a 13), .ref (a 14), .int 0, .ref (a 0), .ref (a 2), .ref (a 4), .ref (a 6), .ref (a 8), .ref (a 10)]))] ++ w_X5 cI cB (a 0) (fun k => a (1 + k)) ++ w_X5 cI cB (a 2) (fun k => a (3 + k)) ++ w_X5 cI cB (a 4) (fun k => a (5 + k)) ++ w_X5 cI cB (a 6) (fun k => a (7 + k)) ++ w_X5 cI cB (a 8) (fun k => a (9 + k)) ++ w_X5 cI cB (a 10) (fun k => a (11 + k)) ++ [(a 12, aI cI nz)] ++ [(a 13, aI cI nz)] ++ [(a 14, aI cI nz)]
set_option maxHeartbeats 4000000 in
set_option maxRecDepth 100000 in
theorem c_X2init (l : Launch) (D : va_G) (cI cB : ClassId) {nz : Nat} (hz : nz ≤ 400) : Cst l yX2_init cX2_init 2 2 15 1992 D cI cB 2 [.int (Int32.ofNat nz)] (w_X2 cI cB nz) := by
  refine mkCst (by decide) (Nat.le_of_ble_eq_true rfl) ?_
  intro p e s m below meth c h0 A Q X hin hret
  refine gw_al X (by decide +kernel : decode cX2_init 0 = .ok (.aload_n 0, 1)) rfl 0 rfl ?_
  refine gw_obj X (bigAt 206 (by decide +kernel) (by decide +kernel)) (by decide +kernel : decode cX2_init 1 = .ok (.invokespecial 3, 3)) ⟨(Nat.le_of_ble_eq_true rfl), (Nat.le_of_ble_eq_true rfl)⟩ ?_
  refine gw_al X (by decide +kernel : decode cX2_init 4 = .ok (.aload_n 0, 1)) rfl 0 rfl ?_
  refine gw_new X (ci := 5) (by decide) ⟨(bigAt 207 (by decide +kernel) (by decide +kernel)), (bigAt 125 (by decide +kernel) (by decide +kernel)), nw_RX5⟩ (by decide +kernel : decode cX2_init 5 = .ok (.new 9, 3)) (Nat.le_of_ble_eq_true rfl) (Nat.le_of_ble_eq_true rfl) (fun q1 => ?_)
  refine gw_wide (c2 := 1) (s2 := 2) (Nat.le_of_ble_eq_true rfl) (Nat.le_of_ble_eq_true rfl) ?_
  refine gw_dup X (by decide +kernel : decode cX2_init 8 = .ok (.dup, 1)) ?_
  refine gw_initN X (As := []) (rest := [.ref q1, .ref h0]) (c_X5init l D cI cB) (X.2.2.2.2.2.2.1.2.2.2.2.1) iw_yX5_init nw_RX5 cw_yX5_init rfl ⟨by decide, by decide, by show _ = some 0; decide +kernel⟩ ⟨(Nat.le_of_ble_eq_true rfl), (Nat.le_of_ble_eq_true rfl)⟩ (Nat.le_of_ble_eq_true rfl) (by decide +kernel : decode cX2_init 9 = .ok (.invokespecial 11, 3)) (Nat.le_of_ble_eq_true rfl) (Nat.le_of_ble_eq_true rfl) (fun a1 => ?_)
  refine gw_wide (c2 := 2) (s2 := 132) (Nat.le_of_ble_eq_true rfl) (Nat.le_of_ble_eq_true rfl) ?_
  refine gw_putF X 5 hin (by decide) (by decide) (Nat.le_of_ble_eq_true rfl) (bigAt 216 (by decide +kernel) (by decide +kernel)) rfl rfl rfl rfl (by decide +kernel : decode cX2_init 12 = .ok (.putfield 12, 3)) ?_
  refine gw_ws (ws2 := (h0, .inr (2, [.null, .int 0, .null, .null, .int 0, .ref q1, .null, .null, .null, .null, .null])) :: (w_X5 cI cB q1 a1)) rfl ?_
  refine gw_al X (by decide +kernel : decode cX2_init 15 = .ok (.aload_n 0, 1)) rfl 0 rfl ?_
  refine gw_new X (ci := 5) (by decide) ⟨(bigAt 207 (by decide +kernel) (by decide +kernel)), (bigAt 125 (by decide +kernel) (by decide +kernel)), nw_RX5⟩ (by decide +kernel : decode cX2_init 16 = .ok (.new 9, 3)) (Nat.le_of_ble_eq_true rfl) (Nat.le_of_ble_eq_true rfl) (fun q2 => ?_)
  refine gw_wide (c2 := 3) (s2 := 134) (Nat.le_of_ble_eq_true rfl) (Nat.le_of_ble_eq_true rfl) ?_
  refine gw_dup X (by decide +kernel : decode cX2_init 19 = .ok (.dup, 1)) ?_
  refine gw_initN X (As := []) (rest := [.ref q2, .ref h0]) (c_X5init l D cI cB) (X.2.2.2.2.2.2.1.2.2.2.2.1) iw_yX5_init nw_RX5 cw_yX5_init rfl ⟨by decide, by decide, by show _ = some 0; decide +kernel⟩ ⟨(Nat.le_of_ble_eq_true rfl), (Nat.le_of_ble_eq_true rfl)⟩ (Nat.le_of_ble_eq_true rfl) (by decide +kernel : decode cX2_init 20 = .ok (.invokespecial 11, 3)) (Nat.le_of_ble_eq_true rfl) (Nat.le_of_ble_eq_true rfl) (fun a2 => ?_)
  refine gw_wide (c2 := 4) (s2 := 264) (Nat.le_of_ble_eq_true rfl) (Nat.le_of_ble_eq_true rfl) ?_
  refine gw_putF X 6 hin (by decide) (by decide) (Nat.le_of_ble_eq_true rfl) (bigAt 217 (by decide +kernel) (by decide +kernel)) rfl rfl rfl rfl (by decide +kernel : decode cX2_init 23 = .ok (.putfield 18, 3)) ?_
  refine gw_ws (ws2 := (h0, .inr (2, [.null, .int 0, .null, .null, .int 0, .ref q1, .ref q2, .null, .null, .null, .null])) :: (w_X5 cI cB q1 a1 ++ w_X5 cI cB q2 a2)) rfl ?_
  refine gw_al X (by decide +kernel : decode cX2_init 26 = .ok (.aload_n 0, 1)) rfl 0 rfl ?_
  refine gw_new X (ci := 5) (by decide) ⟨(bigAt 207 (by decide +kernel) (by decide +kernel)), (bigAt 125 (by decide +kernel) (by decide +kernel)), nw_RX5⟩ (by decide +kernel : decode cX2_init 27 = .ok (.new 9, 3)) (Nat.le_of_ble_eq_true rfl) (Nat.le_of_ble_eq_true rfl) (fun q3 => ?_)
  refine gw_wide (c2 := 5) (s2 := 266) (Nat.le_of_ble_eq_true rfl) (Nat.le_of_ble_eq_true rfl) ?_
  refine gw_dup X (by decide +kernel : decode cX2_init 30 = .ok (.dup, 1)) ?_
  refine gw_initN X (As := []) (rest := [.ref q3, .ref h0]) (c_X5init l D cI cB) (X.2.2.2.2.2.2.1.2.2.2.2.1) iw_yX5_init nw_RX5 cw_yX5_init rfl ⟨by decide, by decide, by show _ = some 0; decide +kernel⟩ ⟨(Nat.le_of_ble_eq_true rfl), (Nat.le_of_ble_eq_true rfl)⟩ (Nat.le_of_ble_eq_true rfl) (by decide +kernel : decode cX2_init 31 = .ok (.invokespecial 11, 3)) (Nat.le_of_ble_eq_true rfl) (Nat.le_of_ble_eq_true rfl) (fun a3 => ?_)
  refine gw_wide (c2 := 6) (s2 := 396) (Nat.le_of_ble_eq_true rfl) (Nat.le_of_ble_eq_true rfl) ?_
  refine gw_putF X 7 hin (by decide) (by decide) (Nat.le_of_ble_eq_true rfl) (bigAt 218 (by decide +kernel) (by decide +kernel)) rfl rfl rfl rfl (by decide +kernel : decode cX2_init 34 = .ok (.putfield 21, 3)) ?_
  refine gw_ws (ws2 := (h0, .inr (2, [.null, .int 0, .null, .null, .int 0, .ref q1, .ref q2, .ref q3, .null, .null, .null])) :: (w_X5 cI cB q1 a1 ++ w_X5 cI cB q2 a2 ++ w_X5 cI cB q3 a3)) rfl ?_
  refine gw_al X (by decide +kernel : decode cX2_init 37 = .ok (.aload_n 0, 1)) rfl 0 rfl ?_
  refine gw_new X (ci := 5) (by decide) ⟨(bigAt 207 (by decide +kernel) (by decide +kernel)), (bigAt 125 (by decide +kernel) (by decide +kernel)), nw_RX5⟩ (by decide +kernel : decode cX2_init 38 = .ok (.new 9, 3)) (Nat.le_of_ble_eq_true rfl) (Nat.le_of_ble_eq_true rfl) (fun q4 => ?_)
  refine gw_wide (c2 := 7) (s2 := 398) (Nat.le_of_ble_eq_true rfl) (Nat.le_of_ble_eq_true rfl) ?_
  refine gw_dup X (by decide +kernel : decode cX2_init 41 = .ok (.dup, 1)) ?_
  refine gw_initN X (As := []) (rest := [.ref q4, .ref h0]) (c_X5init l D cI cB) (X.2.2.2.2.2.2.1.2.2.2.2.1) iw_yX5_init nw_RX5 cw_yX5_init rfl ⟨by decide, by decide, by show _ = some 0; decide +kernel⟩ ⟨(Nat.le_of_ble_eq_true rfl), (Nat.le_of_ble_eq_true rfl)⟩ (Nat.le_of_ble_eq_true rfl) (by decide +kernel : decode cX2_init 42 = .ok (.invokespecial 11, 3)) (Nat.le_of_ble_eq_true rfl) (Nat.le_of_ble_eq_true rfl) (fun a4 => ?_)
  refine gw_wide (c2 := 8) (s2 := 528) (Nat.le_of_ble_eq_true rfl) (Nat.le_of_ble_eq_true rfl) ?_
  refine gw_putF X 8 hin (by decide) (by decide) (Nat.le_of_ble_eq_true rfl) (bigAt 219 (by decide +kernel) (by decide +kernel)) rfl rfl rfl rfl (by decide +kernel : decode cX2_init 45 = .ok (.putfield 24, 3)) ?_
  refine gw_ws (ws2 := (h0, .inr (2, [.null, .int 0, .null, .null, .int 0, .ref q1, .ref q2, .ref q3, .ref q4, .null, .null])) :: (w_X5 cI cB q1 a1 ++ w_X5 cI cB q2 a2 ++ w_X5 cI cB q3 a3 ++ w_X5 cI cB q4 a4)) rfl ?_
  refine gw_al X (by decide +kernel : decode cX2_init 48 = .ok (.aload_n 0, 1)) rfl 0 rfl ?_
  refine gw_new X (ci := 5) (by decide) ⟨(bigAt 207 (by decide +kernel) (by decide +kernel)), (bigAt 125 (by decide +kernel) (by decide +kernel)), nw_RX5⟩ (by decide +kernel : decode cX2_init 49 = .ok (.new 9, 3)) (Nat.le_of_ble_eq_true rfl) (Nat.le_of_ble_eq_true rfl) (fun q5 => ?_)
  refine gw_wide (c2 := 9) (s2 := 530) (Nat.le_of_ble_eq_true rfl) (Nat.le_of_ble_eq_true rfl) ?_
  refine gw_dup X (by decide +kernel : decode cX2_init 52 = .ok (.dup, 1)) ?_
  refine gw_initN X (As := []) (rest := [.ref q5, .ref h0]) (c_X5init l D cI cB) (X.2.2.2.2.2.2.1.2.2.2.2.1) iw_yX5_init nw_RX5 cw_yX5_init rfl ⟨by decide, by decide, by show _ = some 0; decide +kernel⟩ ⟨(Nat.le_of_ble_eq_true rfl), (Nat.le_of_ble_eq_true rfl)⟩ (Nat.le_of_ble_eq_true rfl) (by decide +kernel : decode cX2_init 53 = .ok (.invokespecial 11, 3)) (Nat.le_of_ble_eq_true rfl) (Nat.le_of_ble_eq_true rfl) (fun a5 => ?_)
  refine gw_wide (c2 := 10) (s2 := 660) (Nat.le_of_ble_eq_true rfl) (Nat.le_of_ble_eq_true rfl) ?_
  refine gw_putF X 9 hin (by decide) (by decide) (Nat.le_of_ble_eq_true rfl) (bigAt 220 (by decide +kernel) (by decide +kernel)) rfl rfl rfl rfl (by decide +kernel : decode cX2_init 56 = .ok (.putfield 27, 3)) ?_
  refine gw_ws (ws2 := (h0, .inr (2, [.null, .int 0, .null, .null, .int 0, .ref q1, .ref q2, .ref q3, .ref q4, .ref q5, .null])) :: (w_X5 cI cB q1 a1 ++ w_X5 cI cB q2 a2 ++ w_X5 cI cB q3 a3 ++ w_X5 cI cB q4 a4 ++ w_X5 cI cB q5 a5)) rfl ?_
  refine gw_al X (by decide +kernel : decode cX2_init 59 = .ok (.aload_n 0, 1)) rfl 0 rfl ?_
  refine gw_new X (ci := 5) (by decide) ⟨(bigAt 207 (by decide +kernel) (by decide +kernel)), (bigAt 125 (by decide +kernel) (by decide +kernel)), nw_RX5⟩ (by decide +kernel : decode cX2_init 60 = .ok (.new 9, 3)) (Nat.le_of_ble_eq_true rfl) (Nat.le_of_ble_eq_true rfl) (fun q6 => ?_)
  refine gw_wide (c2 := 11) (s2 := 662) (Nat.le_of_ble_eq_true rfl) (Nat.le_of_ble_eq_true rfl) ?_
  refine gw_dup X (by decide +kernel : decode cX2_init 63 = .ok (.dup, 1)) ?_
  refine gw_initN X (As := []) (rest := [.ref q6, .ref h0]) (c_X5init l D cI cB) (X.2.2.2.2.2.2.1.2.2.2.2.1) iw_yX5_init nw_RX5 cw_yX5_init rfl ⟨by decide, by decide, by show _ = some 0; decide +kernel⟩ ⟨(Nat.le_of_ble_eq_true rfl), (Nat.le_of_ble_eq_true rfl)⟩ (Nat.le_of_ble_eq_true rfl) (by decide +kernel : decode cX2_init 64 = .ok (.invokespecial 11, 3)) (Nat.le_of_ble_eq_true rfl) (Nat.le_of_ble_eq_true rfl) (fun a6 => ?_)
  refine gw_wide (c2 := 12) (s2 := 792) (Nat.le_of_ble_eq_true rfl) (Nat.le_of_ble_eq_true rfl) ?_
  refine gw_putF X 10 hin (by decide) (by decide) (Nat.le_of_ble_eq_true rfl) (bigAt 221 (by decide +kernel) (by decide +kernel)) rfl rfl rfl rfl (by decide +kernel : decode cX2_init 67 = .ok (.putfield 30, 3)) ?_
  refine gw_ws (ws2 := (h0, .inr (2, [.null, .int 0, .null, .null, .int 0, .ref q1, .ref q2, .ref q3, .ref q4, .ref q5, .ref q6])) :: (w_X5 cI cB q1 a1 ++ w_X5 cI cB q2 a2 ++ w_X5 cI cB q3 a3 ++ w_X5 cI cB q4 a4 ++ w_X5 cI cB q5 a5 ++ w_X5 cI cB q6 a6)) rfl ?_
  refine gw_al X (by decide +kernel : decode cX2_init 70 = .ok (.aload_n 0, 1)) rfl 0 rfl ?_
  refine gw_il X (by decide +kernel : decode cX2_init 71 = .ok (.iload_n 1, 1)) rfl 1 rfl ?_
  refine gw_newi X nz rfl (by omega) (by decide +kernel : decode cX2_init 72 = .ok (.newarray .int, 2)) (Nat.le_of_ble_eq_true rfl) (by show _ ≤ 1992; omega) (fun q7 => ?_)
  refine gw_wide (c2 := 13) (s2 := 1192) (Nat.le_of_ble_eq_true rfl) (by omega) ?_
  refine gw_putF X 0 hin (by decide) (by decide) (Nat.le_of_ble_eq_true rfl) (bigAt 209 (by decide +kernel) (by decide +kernel)) rfl rfl rfl rfl (by decide +kernel : decode cX2_init 74 = .ok (.putfield 33, 3)) ?_
  refine gw_ws (ws2 := (h0, .inr (2, [.ref q7, .int 0, .null, .null, .int 0, .ref q1, .ref q2, .ref q3, .ref q4, .ref q5, .ref q6])) :: (w_X5 cI cB q1 a1 ++ w_X5 cI cB q2 a2 ++ w_X5 cI cB q3 a3 ++ w_X5 cI cB q4 a4 ++ w_X5 cI cB q5 a5 ++ w_X5 cI cB q6 a6 ++ [(q7, aI cI nz)])) rfl ?_
  refine gw_al X (by decide +kernel : decode cX2_init 77 = .ok (.aload_n 0, 1)) rfl 0 rfl ?_
  refine gw_il X (by decide +kernel : decode cX2_init 78 = .ok (.iload_n 1, 1)) rfl 1 rfl ?_
  refine gw_newi X nz rfl (by omega) (by decide +kernel : decode cX2_init 79 = .ok (.newarray .int, 2)) (Nat.le_of_ble_eq_true rfl) (by show _ ≤ 1992; omega) (fun q8 => ?_)
  refine gw_wide (c2 := 14) (s2 := 1592) (Nat.le_of_ble_eq_true rfl) (by omega) ?_
  refine gw_putF X 2 hin (by decide) (by decide) (Nat.le_of_ble_eq_true rfl) (bigAt 213 (by decide +kernel) (by decide +kernel)) rfl rfl rfl rfl (by decide +kernel : decode cX2_init 81 = .ok (.putfield 37, 3)) ?_
  refine gw_ws (ws2 := (h0, .inr (2, [.ref q7, .int 0, .ref q8, .null, .int 0, .ref q1, .ref q2, .ref q3, .ref q4, .ref q5, .ref q6])) :: (w_X5 cI cB q1 a1 ++ w_X5 cI cB q2 a2 ++ w_X5 cI cB q3 a3 ++ w_X5 cI cB q4 a4 ++ w_X5 cI cB q5 a5 ++ w_X5 cI cB q6 a6 ++ [(q7, aI cI nz)] ++ [(q8, aI cI nz)])) rfl ?_
  refine gw_al X (by decide +kernel : decode cX2_init 84 = .ok (.aload_n 0, 1)) rfl 0 rfl ?_
  refine gw_il X (by decide +kernel : decode cX2_init 85 = .ok (.iload_n 1, 1)) rfl 1 rfl ?_
  refine gw_newi X nz rfl (by omega) (by decide +kernel : decode cX2_init 86 = .ok (.newarray .int, 2)) (Nat.le_of_ble_eq_true rfl) (by show _ ≤ 1992; omega) (fun q9 => ?_)
  refine gw_wide (c2 := 15) (s2 := 1992) (Nat.le_of_ble_eq_true rfl) (by omega) ?_
  refine gw_putF X 3 hin (by decide) (by decide) (Nat.le_of_ble_eq_true rfl) (bigAt 214 (by decide +kernel) (by decide +kernel)) rfl rfl rfl rfl (by decide +kernel : decode cX2_init 88 = .ok (.putfield 40, 3)) ?_
  refine gw_ws (ws2 := (h0, .inr (2, [.ref q7, .int 0, .ref q8, .ref q9, .int 0, .ref q1, .ref q2, .ref q3, .ref q4, .ref q5, .ref q6])) :: (w_X5 cI cB q1 a1 ++ w_X5 cI cB q2 a2 ++ w_X5 cI cB q3 a3 ++ w_X5 cI cB q4 a4 ++ w_X5 cI cB q5 a5 ++ w_X5 cI cB q6 a6 ++ [(q7, aI cI nz)] ++ [(q8, aI cI nz)] ++ [(q9, aI cI nz)])) rfl ?_
  exact hret (fun k => [q1, (a1 0), q2, (a2 0), q3, (a3 0), q4, (a4 0), q5, (a5 0), q6, (a6 0), q7, q8, q9].getD k 0) _ _ (by decide +kernel : decode cX2_init 91 = .ok (.return_, 1))
def w_X4 (cI cB : ClassId) (nz : Nat) (h0 : Nat) (a : Nat → Nat) : va_W := [(h0, .inr (4, [.ref (a 1), .int 0, .ref (a 0)]))] ++ [(a 0, aI cI 108)] ++ [(a 1, aI cI nz)]
set_option maxHeartbeats 4000000 in
set_option maxRecDepth 100000 in
theorem c_X4init (l : Launch) (D : va_G) (cI cB : ClassId) {nz : Nat} (hz : nz ≤ 400) : Cst l yX4_init cX4_init 2 1 2 508 D cI cB 4 [.int (Int32.ofNat nz)] (w_X4 cI cB nz) := by
  refine mkCst (by decide) (Nat.le_of_ble_eq_true rfl) ?_
  intro p e s m below meth c h0 A Q X hin hret
  refine gw_al X (by decide +kernel : decode cX4_init 0 = .ok (.aload_n 0, 1)) rfl 0 rfl ?_
  refine gw_obj X (bigAt 250 (by decide +kernel) (by decide +kernel)) (by decide +kernel : decode cX4_init 1 = .ok (.invokespecial 3, 3)) ⟨(Nat.le_of_ble_eq_true rfl), (Nat.le_of_ble_eq_true rfl)⟩ ?_
  refine gw_al X (by decide +kernel : decode cX4_init 4 = .ok (.aload_n 0, 1)) rfl 0 rfl ?_
  refine gw_bp X (by decide +kernel : decode cX4_init 5 = .ok (.bipush 108, 2)) (by decide) ?_
  refine gw_newi X 108 rfl (Nat.le_of_ble_eq_true rfl) (by decide +kernel : decode cX4_init 7 = .ok (.newarray .int, 2)) (Nat.le_of_ble_eq_true rfl) (Nat.le_of_ble_eq_true rfl) (fun q1 => ?_)
  refine gw_wide (c2 := 1) (s2 := 108) (Nat.le_of_ble_eq_true rfl) (Nat.le_of_ble_eq_true rfl) ?_
  refine gw_putF X 2 hin (by decide) (by decide) (Nat.le_of_ble_eq_true rfl) (bigAt 255 (by decide +kernel) (by decide +kernel)) rfl rfl rfl rfl (by decide +kernel : decode cX4_init 9 = .ok (.putfield 11, 3)) ?_
  refine gw_ws (ws2 := (h0, .inr (4, [.null, .int 0, .ref q1])) :: ([(q1, aI cI 108)])) rfl ?_
  refine gw_al X (by decide +kernel : decode cX4_init 12 = .ok (.aload_n 0, 1)) rfl 0 rfl ?_
  refine gw_il X (by decide +kernel : decode cX4_init 13 = .ok (.iload_n 1, 1)) rfl 1 rfl ?_
  refine gw_newi X nz rfl (by omega) (by decide +kernel : decode cX4_init 14 = .ok (.newarray .int, 2)) (Nat.le_of_ble_eq_true rfl) (by show _ ≤ 508; omega) (fun q2 => ?_)
  refine gw_wide (c2 := 2) (s2 := 508) (Nat.le_of_ble_eq_true rfl) (by omega) ?_
  refine gw_putF X 0 hin (by decide) (by decide) (Nat.le_of_ble_eq_true rfl) (bigAt 251 (by decide +kernel) (by decide +kernel)) rfl rfl rfl rfl (by decide +kernel : decode cX4_init 16 = .ok (.putfield 15, 3)) ?_
  refine gw_ws (ws2 := (h0, .inr (4, [.ref q2, .int 0, .ref q1])) :: ([(q1, aI cI 108)] ++ [(q2, aI cI nz)])) rfl ?_
  exact hret (fun k => [q1, q2].getD k 0) _ _ (by decide +kernel : decode cX4_init 19 = .ok (.return_, 1))
def w_X7 (cI cB : ClassId) (x1 x2 x3 : Int32) (h0 : Nat) (a : Nat → Nat) : va_W := [(h0, .inr (7, [.ref (a 0), .ref (a 5), .ref (a 20), .ref (a 22), .ref (a 24), .ref (a 40), .ref (a 43), .ref (a 45), .ref (a 47), .int (Int32.ofInt (-1))]))] ++ w_X1 cI cB (nrN x1 1 24) (nrN x2 16 800) (a 0) (fun k => a (1 + k)) ++ w_X0 cI cB (a 5) (fun k => a (6 + k)) ++ w_X6 cI cB (a 20) (fun k => a (21 + k)) ++ w_X3 cI cB (a 22) (fun k => a (23 + k)) ++ w_X2 cI cB (nrN x3 8 400) (a 24) (fun k => a (25 + k)) ++ w_X4 cI cB (nrN x3 8 400) (a 40) (fun k => a (41 + k)) ++ w_X5 cI cB (a 43) (fun k => a (44 + k)) ++ w_X5 cI cB (a 45) (fun k => a (46 + k)) ++ w_X5 cI cB (a 47) (fun k => a (48 + k))
set_option maxHeartbeats 4000000 in
set_option maxRecDepth 100000 in
theorem c_X7init (l : Launch) (D : va_G) (cI cB : ClassId) (x1 x2 x3 : Int32) : Cst l yX7_init cX7_init 5 3 49 6694 D cI cB 7 [.int x1, .int x2, .int x3] (w_X7 cI cB x1 x2 x3) := by
  refine mkCst (by decide) (Nat.le_of_ble_eq_true rfl) ?_
  intro p e s m below meth c h0 A Q X hin hret
  refine gw_al X (by decide +kernel : decode cX7_init 0 = .ok (.aload_n 0, 1)) rfl 0 rfl ?_
  refine gw_obj X (bigAt 71 (by decide +kernel) (by decide +kernel)) (by decide +kernel : decode cX7_init 1 = .ok (.invokespecial 1, 3)) ⟨(Nat.le_of_ble_eq_true rfl), (Nat.le_of_ble_eq_true rfl)⟩ ?_
  refine gw_il X (by decide +kernel : decode cX7_init 4 = .ok (.iload_n 3, 1)) rfl 3 rfl ?_
  refine gw_bp X (by decide +kernel : decode cX7_init 5 = .ok (.bipush 8, 2)) (by decide) ?_
  refine gw_sp X (by decide +kernel : decode cX7_init 7 = .ok (.sipush 400, 3)) (by decide) ?_
  refine gw_stat X (As := [.int x3, .int (Int32.ofInt 8), .int (Int32.ofInt 400)]) (rest := []) (s_X7nearest l x3 8 400 (by decide) (by decide) (by decide)) (fun a U g mk q => q) (fun _ _ _ _ _ _ => trivial) (bigAt 74 (by decide +kernel) (by decide +kernel)) sw_yX7_nearest nw_RX7 cw_yX7_nearest ⟨by decide, by decide, by show _ = some 3; decide +kernel⟩ ⟨(Nat.le_of_ble_eq_true rfl), (Nat.le_of_ble_eq_true rfl)⟩ (Nat.le_of_ble_eq_true rfl) (by decide +kernel : decode cX7_init 10 = .ok (.invokestatic 7, 3)) (Nat.le_of_ble_eq_true rfl) (Nat.le_of_ble_eq_true rfl) ?_
  refine gw_ist X (by decide +kernel : decode cX7_init 13 = .ok (.istore 4, 2)) (by decide) rfl ?_
  refine gw_al X (by decide +kernel : decode cX7_init 15 = .ok (.aload_n 0, 1)) rfl 1 rfl ?_
  refine gw_new X (ci := 1) (by decide) ⟨(bigAt 83 (by decide +kernel) (by decide +kernel)), (bigAt 84 (by decide +kernel) (by decide +kernel)), nw_RX1⟩ (by decide +kernel : decode cX7_init 16 = .ok (.new 13, 3)) (Nat.le_of_ble_eq_true rfl) (Nat.le_of_ble_eq_true rfl) (fun q1 => ?_)
  refine gw_wide (c2 := 1) (s2 := 7) (Nat.le_of_ble_eq_true rfl) (Nat.le_of_ble_eq_true rfl) ?_
  refine gw_dup X (by decide +kernel : decode cX7_init 19 = .ok (.dup, 1)) ?_
  refine gw_il X (by decide +kernel : decode cX7_init 20 = .ok (.iload_n 1, 1)) rfl 2 rfl ?_
  refine gw_ic X (by decide +kernel : decode cX7_init 21 = .ok (.iconst 1, 1)) ?_
  refine gw_bp X (by decide +kernel : decode cX7_init 22 = .ok (.bipush 24, 2)) (by decide) ?_
  refine gw_stat X (As := [.int x1, .int (Int32.ofInt 1), .int (Int32.ofInt 24)]) (rest := [.ref q1, .ref q1, .ref h0]) (s_X7nearest l x1 1 24 (by decide) (by decide) (by decide)) (fun a U g mk q => q) (fun _ _ _ _ _ _ => trivial) (bigAt 74 (by decide +kernel) (by decide +kernel)) sw_yX7_nearest nw_RX7 cw_yX7_nearest ⟨by decide, by decide, by show _ = some 3; decide +kernel⟩ ⟨(Nat.le_of_ble_eq_true rfl), (Nat.le_of_ble_eq_true rfl)⟩ (Nat.le_of_ble_eq_true rfl) (by decide +kernel : decode cX7_init 24 = .ok (.invokestatic 7, 3)) (Nat.le_of_ble_eq_true rfl) (Nat.le_of_ble_eq_true rfl) ?_
  refine gw_il X (by decide +kernel : decode cX7_init 27 = .ok (.iload_n 2, 1)) rfl 3 rfl ?_
  refine gw_bp X (by decide +kernel : decode cX7_init 28 = .ok (.bipush 16, 2)) (by decide) ?_
  refine gw_sp X (by decide +kernel : decode cX7_init 30 = .ok (.sipush 800, 3)) (by decide) ?_
  refine gw_stat X (As := [.int x2, .int (Int32.ofInt 16), .int (Int32.ofInt 800)]) (rest := [.int (Int32.ofNat (nrN x1 1 24)), .ref q1, .ref q1, .ref h0]) (s_X7nearest l x2 16 800 (by decide) (by decide) (by decide)) (fun a U g mk q => q) (fun _ _ _ _ _ _ => trivial) (bigAt 74 (by decide +kernel) (by decide +kernel)) sw_yX7_nearest nw_RX7 cw_yX7_nearest ⟨by decide, by decide, by show _ = some 3; decide +kernel⟩ ⟨(Nat.le_of_ble_eq_true rfl), (Nat.le_of_ble_eq_true rfl)⟩ (Nat.le_of_ble_eq_true rfl) (by decide +kernel : decode cX7_init 33 = .ok (.invokestatic 7, 3)) (Nat.le_of_ble_eq_true rfl) (Nat.le_of_ble_eq_true rfl) ?_
  refine gw_init X (As := [.int (Int32.ofNat (nrN x1 1 24)), .int (Int32.ofNat (nrN x2 16 800))]) (rest := [.ref q1, .ref h0]) (c_X1init l D cI cB (nrN_le x1 1 24 (by decide) (by decide)) (nrN_le x2 16 800 (by decide) (by decide))) (bigAt 85 (by decide +kernel) (by decide +kernel)) iw_yX1_init nw_RX1 cw_yX1_init rfl ⟨by decide, by decide, by show _ = some 2; decide +kernel⟩ ⟨(Nat.le_of_ble_eq_true rfl), (Nat.le_of_ble_eq_true rfl)⟩ (Nat.le_of_ble_eq_true rfl) (by decide +kernel : decode cX7_init 36 = .ok (.invokespecial 15, 3)) (Nat.le_of_ble_eq_true rfl) (Nat.le_of_ble_eq_true rfl) (fun a1 => ?_)
  refine gw_wide (c2 := 5) (s2 := 889) (Nat.le_of_ble_eq_true rfl) (Nat.le_of_ble_eq_true rfl) ?_
  refine gw_putF X 0 hin (by decide) (by decide) (Nat.le_of_ble_eq_true rfl) (bigAt 265 (by decide +kernel) (by decide +kernel)) rfl rfl rfl rfl (by decide +kernel : decode cX7_init 39 = .ok (.putfield 18, 3)) ?_
  refine gw_ws (ws2 := (h0, .inr (7, [.ref q1, .null, .null, .null, .null, .null, .null, .null, .null, .int 0])) :: (w_X1 cI cB (nrN x1 1 24) (nrN x2 16 800) q1 a1)) rfl ?_
  refine gw_al X (by decide +kernel : decode cX7_init 42 = .ok (.aload_n 0, 1)) rfl 1 rfl ?_
  refine gw_new X (ci := 0) (by decide) ⟨(bigAt 118 (by decide +kernel) (by decide +kernel)), (bigAt 119 (by decide +kernel) (by decide +kernel)), nw_RX0⟩ (by decide +kernel : decode cX7_init 43 = .ok (.new 22, 3)) (Nat.le_of_ble_eq_true rfl) (Nat.le_of_ble_eq_true rfl) (fun q2 => ?_)
  refine gw_wide (c2 := 6) (s2 := 896) (Nat.le_of_ble_eq_true rfl) (Nat.le_of_ble_eq_true rfl) ?_
  refine gw_dup X (by decide +kernel : decode cX7_init 46 = .ok (.dup, 1)) ?_
  refine gw_initN X (As := []) (rest := [.ref q2, .ref h0]) (c_X0init l D cI cB) (X.2.2.2.2.2.2.1.1) iw_yX0_init nw_RX0 cw_yX0_init rfl ⟨by decide, by decide, by show _ = some 0; decide +kernel⟩ ⟨(Nat.le_of_ble_eq_true rfl), (Nat.le_of_ble_eq_true rfl)⟩ (Nat.le_of_ble_eq_true rfl) (by decide +kernel : decode cX7_init 47 = .ok (.invokespecial 24, 3)) (Nat.le_of_ble_eq_true rfl) (Nat.le_of_ble_eq_true rfl) (fun a2 => ?_)
  refine gw_wide (c2 := 20) (s2 := 1820) (Nat.le_of_ble_eq_true rfl) (Nat.le_of_ble_eq_true rfl) ?_
  refine gw_putF X 1 hin (by decide) (by decide) (Nat.le_of_ble_eq_true rfl) (bigAt 266 (by decide +kernel) (by decide +kernel)) rfl rfl rfl rfl (by decide +kernel : decode cX7_init 50 = .ok (.putfield 25, 3)) ?_
  refine gw_ws (ws2 := (h0, .inr (7, [.ref q1, .ref q2, .null, .null, .null, .null, .null, .null, .null, .int 0])) :: (w_X1 cI cB (nrN x1 1 24) (nrN x2 16 800) q1 a1 ++ w_X0 cI cB q2 a2)) rfl ?_
  refine gw_al X (by decide +kernel : decode cX7_init 53 = .ok (.aload_n 0, 1)) rfl 1 rfl ?_
  refine gw_new X (ci := 6) (by decide) ⟨(bigAt 173 (by decide +kernel) (by decide +kernel)), (bigAt 174 (by decide +kernel) (by decide +kernel)), nw_RX6⟩ (by decide +kernel : decode cX7_init 54 = .ok (.new 29, 3)) (Nat.le_of_ble_eq_true rfl) (Nat.le_of_ble_eq_true rfl) (fun q3 => ?_)
  refine gw_wide (c2 := 21) (s2 := 1822) (Nat.le_of_ble_eq_true rfl) (Nat.le_of_ble_eq_true rfl) ?_
  refine gw_dup X (by decide +kernel : decode cX7_init 57 = .ok (.dup, 1)) ?_
  refine gw_initN X (As := []) (rest := [.ref q3, .ref h0]) (c_X6init l D cI cB) (X.2.2.2.2.2.2.1.2.2.1) iw_yX6_init nw_RX6 cw_yX6_init rfl ⟨by decide, by decide, by show _ = some 0; decide +kernel⟩ ⟨(Nat.le_of_ble_eq_true rfl), (Nat.le_of_ble_eq_true rfl)⟩ (Nat.le_of_ble_eq_true rfl) (by decide +kernel : decode cX7_init 58 = .ok (.invokespecial 31, 3)) (Nat.le_of_ble_eq_true rfl) (Nat.le_of_ble_eq_true rfl) (fun a3 => ?_)
  refine gw_wide (c2 := 22) (s2 := 2822) (Nat.le_of_ble_eq_true rfl) (Nat.le_of_ble_eq_true rfl) ?_
  refine gw_putF X 2 hin (by decide) (by decide) (Nat.le_of_ble_eq_true rfl) (bigAt 267 (by decide +kernel) (by decide +kernel)) rfl rfl rfl rfl (by decide +kernel : decode cX7_init 61 = .ok (.putfield 32, 3)) ?_
  refine gw_ws (ws2 := (h0, .inr (7, [.ref q1, .ref q2, .ref q3, .null, .null, .null, .null, .null, .null, .int 0])) :: (w_X1 cI cB (nrN x1 1 24) (nrN x2 16 800) q1 a1 ++ w_X0 cI cB q2 a2 ++ w_X6 cI cB q3 a3)) rfl ?_
  refine gw_al X (by decide +kernel : decode cX7_init 64 = .ok (.aload_n 0, 1)) rfl 1 rfl ?_
  refine gw_new X (ci := 3) (by decide) ⟨(bigAt 187 (by decide +kernel) (by decide +kernel)), (bigAt 188 (by decide +kernel) (by decide +kernel)), nw_RX3⟩ (by decide +kernel : decode cX7_init 65 = .ok (.new 36, 3)) (Nat.le_of_ble_eq_true rfl) (Nat.le_of_ble_eq_true rfl) (fun q4 => ?_)
  refine gw_wide (c2 := 23) (s2 := 2824) (Nat.le_of_ble_eq_true rfl) (Nat.le_of_ble_eq_true rfl) ?_
  refine gw_dup X (by decide +kernel : decode cX7_init 68 = .ok (.dup, 1)) ?_
  refine gw_initN X (As := []) (rest := [.ref q4, .ref h0]) (c_X3init l D cI cB) (X.2.2.2.2.2.2.1.2.2.2.1) iw_yX3_init nw_RX3 cw_yX3_init rfl ⟨by decide, by decide, by show _ = some 0; decide +kernel⟩ ⟨(Nat.le_of_ble_eq_true rfl), (Nat.le_of_ble_eq_true rfl)⟩ (Nat.le_of_ble_eq_true rfl) (by decide +kernel : decode cX7_init 69 = .ok (.invokespecial 38, 3)) (Nat.le_of_ble_eq_true rfl) (Nat.le_of_ble_eq_true rfl) (fun a4 => ?_)
  refine gw_wide (c2 := 24) (s2 := 3784) (Nat.le_of_ble_eq_true rfl) (Nat.le_of_ble_eq_true rfl) ?_
  refine gw_putF X 3 hin (by decide) (by decide) (Nat.le_of_ble_eq_true rfl) (bigAt 268 (by decide +kernel) (by decide +kernel)) rfl rfl rfl rfl (by decide +kernel : decode cX7_init 72 = .ok (.putfield 39, 3)) ?_
  refine gw_ws (ws2 := (h0, .inr (7, [.ref q1, .ref q2, .ref q3, .ref q4, .null, .null, .null, .null, .null, .int 0])) :: (w_X1 cI cB (nrN x1 1 24) (nrN x2 16 800) q1 a1 ++ w_X0 cI cB q2 a2 ++ w_X6 cI cB q3 a3 ++ w_X3 cI cB q4 a4)) rfl ?_
  refine gw_al X (by decide +kernel : decode cX7_init 75 = .ok (.aload_n 0, 1)) rfl 1 rfl ?_
  refine gw_new X (ci := 2) (by decide) ⟨(bigAt 201 (by decide +kernel) (by decide +kernel)), (bigAt 202 (by decide +kernel) (by decide +kernel)), nw_RX2⟩ (by decide +kernel : decode cX7_init 76 = .ok (.new 43, 3)) (Nat.le_of_ble_eq_true rfl) (Nat.le_of_ble_eq_true rfl) (fun q5 => ?_)
  refine gw_wide (c2 := 25) (s2 := 3795) (Nat.le_of_ble_eq_true rfl) (Nat.le_of_ble_eq_true rfl) ?_
  refine gw_dup X (by decide +kernel : decode cX7_init 79 = .ok (.dup, 1)) ?_
  refine gw_il2 X (by decide +kernel : decode cX7_init 80 = .ok (.iload 4, 2)) 0 rfl ?_
  refine gw_init X (As := [.int (Int32.ofNat (nrN x3 8 400))]) (rest := [.ref q5, .ref h0]) (c_X2init l D cI cB (nrN_le x3 8 400 (by decide) (by decide))) (bigAt 203 (by decide +kernel) (by decide +kernel)) iw_yX2_init nw_RX2 cw_yX2_init rfl ⟨by decide, by decide, by show _ = some 1; decide +kernel⟩ ⟨(Nat.le_of_ble_eq_true rfl), (Nat.le_of_ble_eq_true rfl)⟩ (Nat.le_of_ble_eq_true rfl) (by decide +kernel : decode cX7_init 82 = .ok (.invokespecial 45, 3)) (Nat.le_of_ble_eq_true rfl) (Nat.le_of_ble_eq_true rfl) (fun a5 => ?_)
  refine gw_wide (c2 := 40) (s2 := 5787) (Nat.le_of_ble_eq_true rfl) (Nat.le_of_ble_eq_true rfl) ?_
  refine gw_putF X 4 hin (by decide) (by decide) (Nat.le_of_ble_eq_true rfl) (bigAt 269 (by decide +kernel) (by decide +kernel)) rfl rfl rfl rfl (by decide +kernel : decode cX7_init 85 = .ok (.putfield 48, 3)) ?_
  refine gw_ws (ws2 := (h0, .inr (7, [.ref q1, .ref q2, .ref q3, .ref q4, .ref q5, .null, .null, .null, .null, .int 0])) :: (w_X1 cI cB (nrN x1 1 24) (nrN x2 16 800) q1 a1 ++ w_X0 cI cB q2 a2 ++ w_X6 cI cB q3 a3 ++ w_X3 cI cB q4 a4 ++ w_X2 cI cB (nrN x3 8 400) q5 a5)) rfl ?_
  refine gw_al X (by decide +kernel : decode cX7_init 88 = .ok (.aload_n 0, 1)) rfl 1 rfl ?_
  refine gw_new X (ci := 4) (by decide) ⟨(bigAt 245 (by decide +kernel) (by decide +kernel)), (bigAt 246 (by decide +kernel) (by decide +kernel)), nw_RX4⟩ (by decide +kernel : decode cX7_init 89 = .ok (.new 52, 3)) (Nat.le_of_ble_eq_true rfl) (Nat.le_of_ble_eq_true rfl) (fun q6 => ?_)
  refine gw_wide (c2 := 41) (s2 := 5790) (Nat.le_of_ble_eq_true rfl) (Nat.le_of_ble_eq_true rfl) ?_
  refine gw_dup X (by decide +kernel : decode cX7_init 92 = .ok (.dup, 1)) ?_
  refine gw_il2 X (by decide +kernel : decode cX7_init 93 = .ok (.iload 4, 2)) 0 rfl ?_
  refine gw_init X (As := [.int (Int32.ofNat (nrN x3 8 400))]) (rest := [.ref q6, .ref h0]) (c_X4init l D cI cB (nrN_le x3 8 400 (by decide) (by decide))) (bigAt 247 (by decide +kernel) (by decide +kernel)) iw_yX4_init nw_RX4 cw_yX4_init rfl ⟨by decide, by decide, by show _ = some 1; decide +kernel⟩ ⟨(Nat.le_of_ble_eq_true rfl), (Nat.le_of_ble_eq_true rfl)⟩ (Nat.le_of_ble_eq_true rfl) (by decide +kernel : decode cX7_init 95 = .ok (.invokespecial 54, 3)) (Nat.le_of_ble_eq_true rfl) (Nat.le_of_ble_eq_true rfl) (fun a6 => ?_)
  refine gw_wide (c2 := 43) (s2 := 6298) (Nat.le_of_ble_eq_true rfl) (Nat.le_of_ble_eq_true rfl) ?_
  refine gw_putF X 5 hin (by decide) (by decide) (Nat.le_of_ble_eq_true rfl) (bigAt 270 (by decide +kernel) (by decide +kernel)) rfl rfl rfl rfl (by decide +kernel : decode cX7_init 98 = .ok (.putfield 55, 3)) ?_
  refine gw_ws (ws2 := (h0, .inr (7, [.ref q1, .ref q2, .ref q3, .ref q4, .ref q5, .ref q6, .null, .null, .null, .int 0])) :: (w_X1 cI cB (nrN x1 1 24) (nrN x2 16 800) q1 a1 ++ w_X0 cI cB q2 a2 ++ w_X6 cI cB q3 a3 ++ w_X3 cI cB q4 a4 ++ w_X2 cI cB (nrN x3 8 400) q5 a5 ++ w_X4 cI cB (nrN x3 8 400) q6 a6)) rfl ?_
  refine gw_al X (by decide +kernel : decode cX7_init 101 = .ok (.aload_n 0, 1)) rfl 1 rfl ?_
  refine gw_new X (ci := 5) (by decide) ⟨(bigAt 263 (by decide +kernel) (by decide +kernel)), (bigAt 125 (by decide +kernel) (by decide +kernel)), nw_RX5⟩ (by decide +kernel : decode cX7_init 102 = .ok (.new 59, 3)) (Nat.le_of_ble_eq_true rfl) (Nat.le_of_ble_eq_true rfl) (fun q7 => ?_)
  refine gw_wide (c2 := 44) (s2 := 6300) (Nat.le_of_ble_eq_true rfl) (Nat.le_of_ble_eq_true rfl) ?_
  refine gw_dup X (by decide +kernel : decode cX7_init 105 = .ok (.dup, 1)) ?_
  refine gw_initN X (As := []) (rest := [.ref q7, .ref h0]) (c_X5init l D cI cB) (X.2.2.2.2.2.2.1.2.2.2.2.2) iw_yX5_init nw_RX5 cw_yX5_init rfl ⟨by decide, by decide, by show _ = some 0; decide +kernel⟩ ⟨(Nat.le_of_ble_eq_true rfl), (Nat.le_of_ble_eq_true rfl)⟩ (Nat.le_of_ble_eq_true rfl) (by decide +kernel : decode cX7_init 106 = .ok (.invokespecial 61, 3)) (Nat.le_of_ble_eq_true rfl) (Nat.le_of_ble_eq_true rfl) (fun a7 => ?_)
  refine gw_wide (c2 := 45) (s2 := 6430) (Nat.le_of_ble_eq_true rfl) (Nat.le_of_ble_eq_true rfl) ?_
  refine gw_putF X 6 hin (by decide) (by decide) (Nat.le_of_ble_eq_true rfl) (bigAt 271 (by decide +kernel) (by decide +kernel)) rfl rfl rfl rfl (by decide +kernel : decode cX7_init 109 = .ok (.putfield 62, 3)) ?_
  refine gw_ws (ws2 := (h0, .inr (7, [.ref q1, .ref q2, .ref q3, .ref q4, .ref q5, .ref q6, .ref q7, .null, .null, .int 0])) :: (w_X1 cI cB (nrN x1 1 24) (nrN x2 16 800) q1 a1 ++ w_X0 cI cB q2 a2 ++ w_X6 cI cB q3 a3 ++ w_X3 cI cB q4 a4 ++ w_X2 cI cB (nrN x3 8 400) q5 a5 ++ w_X4 cI cB (nrN x3 8 400) q6 a6 ++ w_X5 cI cB q7 a7)) rfl ?_
  refine gw_al X (by decide +kernel : decode cX7_init 112 = .ok (.aload_n 0, 1)) rfl 1 rfl ?_
  refine gw_new X (ci := 5) (by decide) ⟨(bigAt 263 (by decide +kernel) (by decide +kernel)), (bigAt 125 (by decide +kernel) (by decide +kernel)), nw_RX5⟩ (by decide +kernel : decode cX7_init 113 = .ok (.new 59, 3)) (Nat.le_of_ble_eq_true rfl) (Nat.le_of_ble_eq_true rfl) (fun q8 => ?_)
  refine gw_wide (c2 := 46) (s2 := 6432) (Nat.le_of_ble_eq_true rfl) (Nat.le_of_ble_eq_true rfl) ?_
  refine gw_dup X (by decide +kernel : decode cX7_init 116 = .ok (.dup, 1)) ?_
  refine gw_initN X (As := []) (rest := [.ref q8, .ref h0]) (c_X5init l D cI cB) (X.2.2.2.2.2.2.1.2.2.2.2.2) iw_yX5_init nw_RX5 cw_yX5_init rfl ⟨by decide, by decide, by show _ = some 0; decide +kernel⟩ ⟨(Nat.le_of_ble_eq_true rfl), (Nat.le_of_ble_eq_true rfl)⟩ (Nat.le_of_ble_eq_true rfl) (by decide +kernel : decode cX7_init 117 = .ok (.invokespecial 61, 3)) (Nat.le_of_ble_eq_true rfl) (Nat.le_of_ble_eq_true rfl) (fun a8 => ?_)
  refine gw_wide (c2 := 47) (s2 := 6562) (Nat.le_of_ble_eq_true rfl) (Nat.le_of_ble_eq_true rfl) ?_
  refine gw_putF X 7 hin (by decide) (by decide) (Nat.le_of_ble_eq_true rfl) (bigAt 272 (by decide +kernel) (by decide +kernel)) rfl rfl rfl rfl (by decide +kernel : decode cX7_init 120 = .ok (.putfield 66, 3)) ?_
  refine gw_ws (ws2 := (h0, .inr (7, [.ref q1, .ref q2, .ref q3, .ref q4, .ref q5, .ref q6, .ref q7, .ref q8, .null, .int 0])) :: (w_X1 cI cB (nrN x1 1 24) (nrN x2 16 800) q1 a1 ++ w_X0 cI cB q2 a2 ++ w_X6 cI cB q3 a3 ++ w_X3 cI cB q4 a4 ++ w_X2 cI cB (nrN x3 8 400) q5 a5 ++ w_X4 cI cB (nrN x3 8 400) q6 a6 ++ w_X5 cI cB q7 a7 ++ w_X5 cI cB q8 a8)) rfl ?_
  refine gw_al X (by decide +kernel : decode cX7_init 123 = .ok (.aload_n 0, 1)) rfl 1 rfl ?_
  refine gw_new X (ci := 5) (by decide) ⟨(bigAt 263 (by decide +kernel) (by decide +kernel)), (bigAt 125 (by decide +kernel) (by decide +kernel)), nw_RX5⟩ (by decide +kernel : decode cX7_init 124 = .ok (.new 59, 3)) (Nat.le_of_ble_eq_true rfl) (Nat.le_of_ble_eq_true rfl) (fun q9 => ?_)
  refine gw_wide (c2 := 48) (s2 := 6564) (Nat.le_of_ble_eq_true rfl) (Nat.le_of_ble_eq_true rfl) ?_
  refine gw_dup X (by decide +kernel : decode cX7_init 127 = .ok (.dup, 1)) ?_
  refine gw_initN X (As := []) (rest := [.ref q9, .ref h0]) (c_X5init l D cI cB) (X.2.2.2.2.2.2.1.2.2.2.2.2) iw_yX5_init nw_RX5 cw_yX5_init rfl ⟨by decide, by decide, by show _ = some 0; decide +kernel⟩ ⟨(Nat.le_of_ble_eq_true rfl), (Nat.le_of_ble_eq_true rfl)⟩ (Nat.le_of_ble_eq_true rfl) (by decide +kernel : decode cX7_init 128 = .ok (.invokespecial 61, 3)) (Nat.le_of_ble_eq_true rfl) (Nat.le_of_ble_eq_true rfl) (fun a9 => ?_)
  refine gw_wide (c2 := 49) (s2 := 6694) (Nat.le_of_ble_eq_true rfl) (Nat.le_of_ble_eq_true rfl) ?_
  refine gw_putF X 8 hin (by decide) (by decide) (Nat.le_of_ble_eq_true rfl) (bigAt 273 (by decide +kernel) (by decide +kernel)) rfl rfl rfl rfl (by decide +kernel : decode cX7_init 131 = .ok (.putfield 69, 3)) ?_
  refine gw_ws (ws2 := (h0, .inr (7, [.ref q1, .ref q2, .ref q3, .ref q4, .ref q5, .ref q6, .ref q7, .ref q8, .ref q9, .int 0])) :: (w_X1 cI cB (nrN x1 1 24) (nrN x2 16 800) q1 a1 ++ w_X0 cI cB q2 a2 ++ w_X6 cI cB q3 a3 ++ w_X3 cI cB q4 a4 ++ w_X2 cI cB (nrN x3 8 400) q5 a5 ++ w_X4 cI cB (nrN x3 8 400) q6 a6 ++ w_X5 cI cB q7 a7 ++ w_X5 cI cB q8 a8 ++ w_X5 cI cB q9 a9)) rfl ?_
  refine gw_al X (by decide +kernel : decode cX7_init 134 = .ok (.aload_n 0, 1)) rfl 1 rfl ?_
  refine gw_ic X (by decide +kernel : decode cX7_init 135 = .ok (.iconst (-1), 1)) ?_
  refine gw_put X 9 (by decide) (by decide) (Nat.le_of_ble_eq_true rfl) (bigAt 274 (by decide +kernel) (by decide +kernel)) rfl rfl rfl (by decide +kernel : decode cX7_init 136 = .ok (.putfield 72, 3)) ?_
  refine gw_ws (ws2 := (h0, .inr (7, [.ref q1, .ref q2, .ref q3, .ref q4, .ref q5, .ref q6, .ref q7, .ref q8, .ref q9, .int (Int32.ofInt (-1))])) :: (w_X1 cI cB (nrN x1 1 24) (nrN x2 16 800) q1 a1 ++ w_X0 cI cB q2 a2 ++ w_X6 cI cB q3 a3 ++ w_X3 cI cB q4 a4 ++ w_X2 cI cB (nrN x3 8 400) q5 a5 ++ w_X4 cI cB (nrN x3 8 400) q6 a6 ++ w_X5 cI cB q7 a7 ++ w_X5 cI cB q8 a8 ++ w_X5 cI cB q9 a9)) rfl ?_
  exact hret (fun k => [q1, (a1 0), (a1 1), (a1 2), (a1 3), q2, (a2 0), (a2 1), (a2 2), (a2 3), (a2 4), (a2 5), (a2 6), (a2 7), (a2 8), (a2 9), (a2 10), (a2 11), (a2 12), (a2 13), q3, (a3 0), q4, (a4 0), q5, (a5 0), (a5 1), (a5 2), (a5 3), (a5 4), (a5 5), (a5 6), (a5 7), (a5 8), (a5 9), (a5 10), (a5 11), (a5 12), (a5 13), (a5 14), q6, (a6 0), (a6 1), q7, (a7 0), q8, (a8 0), q9, (a9 0)].getD k 0) _ _ (by decide +kernel : decode cX7_init 139 = .ok (.return_, 1))
def w_X8 (cI cB : ClassId) (x1 x2 x3 : Int32) (h0 : Nat) (a : Nat → Nat) : va_W := [(h0, .inr (8, [.int (Int32.ofNat (nrN x1 1 24)), .int (Int32.ofNat (nrN x2 16 800)), .int (Int32.ofNat (nrN x3 8 400)), .ref (a 0), .ref (a 1), .ref (a 2), .ref (a 3), .ref (a 4), .ref (a 5), .ref (a 6), .int 0, .int 0, .ref (a 7), .ref (a 8), .int 0, .int 0, .int (Int32.ofInt (-1)), .ref (a 9), .int 0, .int 0, .int 0, .ref (a 10), .ref (a 11), .ref (a 12), .ref (a 13), .ref (a 14), .ref (a 15), .int 0, .int 0]))] ++ [(a 0, aI cI 15540)] ++ [(a 1, aI cI 37)] ++ [(a 2, aI cB 24)] ++ [(a 3, aI cI 24)] ++ [(a 4, aI cI 24)] ++ [(a 5, aI cI 8)] ++ [(a 6, aI cI 8)] ++ [(a 7, aI cI 1000)] ++ [(a 8, aI cI 970)] ++ [(a 9, aI cI 400)] ++ [(a 10, aI cI 220)] ++ [(a 11, aI cI 220)] ++ [(a 12, aI cI 220)] ++ [(a 13, aI cI 220)] ++ [(a 14, aI cI 220)] ++ [(a 15, aI cI 4000)]
set_option maxHeartbeats 4000000 in
set_option maxRecDepth 100000 in
theorem c_X8init (l : Launch) (D : va_G) (cI cB : ClassId) (x1 x2 x3 : Int32) : Cst l yX8_init cX8_init 4 2 16 23135 D cI cB 8 [.int x1, .int x2, .int x3] (w_X8 cI cB x1 x2 x3) := by
  refine mkCst (by decide) (Nat.le_of_ble_eq_true rfl) ?_
  intro p e s m below meth c h0 A Q X hin hret
  refine gw_al X (by decide +kernel : decode cX8_init 0 = .ok (.aload_n 0, 1)) rfl 0 rfl ?_
  refine gw_obj X (bigAt 796 (by decide +kernel) (by decide +kernel)) (by decide +kernel : decode cX8_init 1 = .ok (.invokespecial 1, 3)) ⟨(Nat.le_of_ble_eq_true rfl), (Nat.le_of_ble_eq_true rfl)⟩ ?_
  refine gw_al X (by decide +kernel : decode cX8_init 4 = .ok (.aload_n 0, 1)) rfl 0 rfl ?_
  refine gw_sp X (by decide +kernel : decode cX8_init 5 = .ok (.sipush 15540, 3)) (by decide) ?_
  refine gw_newi X 15540 rfl (Nat.le_of_ble_eq_true rfl) (by decide +kernel : decode cX8_init 8 = .ok (.newarray .int, 2)) (Nat.le_of_ble_eq_true rfl) (Nat.le_of_ble_eq_true rfl) (fun q1 => ?_)
  refine gw_wide (c2 := 1) (s2 := 15540) (Nat.le_of_ble_eq_true rfl) (Nat.le_of_ble_eq_true rfl) ?_
  refine gw_putF X 3 hin (by decide) (by decide) (Nat.le_of_ble_eq_true rfl) (bigAt 803 (by decide +kernel) (by decide +kernel)) rfl rfl rfl rfl (by decide +kernel : decode cX8_init 10 = .ok (.putfield 7, 3)) ?_
  refine gw_ws (ws2 := (h0, .inr (8, [.int 0, .int 0, .int 0, .ref q1, .null, .null, .null, .null, .null, .null, .int 0, .int 0, .null, .null, .int 0, .int 0, .int 0, .null, .int 0, .int 0, .int 0, .null, .null, .null, .null, .null, .null, .int 0, .int 0])) :: ([(q1, aI cI 15540)])) rfl ?_
  refine gw_al X (by decide +kernel : decode cX8_init 13 = .ok (.aload_n 0, 1)) rfl 0 rfl ?_
  refine gw_bp X (by decide +kernel : decode cX8_init 14 = .ok (.bipush 37, 2)) (by decide) ?_
  refine gw_newi X 37 rfl (Nat.le_of_ble_eq_true rfl) (by decide +kernel : decode cX8_init 16 = .ok (.newarray .int, 2)) (Nat.le_of_ble_eq_true rfl) (Nat.le_of_ble_eq_true rfl) (fun q2 => ?_)
  refine gw_wide (c2 := 2) (s2 := 15577) (Nat.le_of_ble_eq_true rfl) (Nat.le_of_ble_eq_true rfl) ?_
  refine gw_putF X 4 hin (by decide) (by decide) (Nat.le_of_ble_eq_true rfl) (bigAt 804 (by decide +kernel) (by decide +kernel)) rfl rfl rfl rfl (by decide +kernel : decode cX8_init 18 = .ok (.putfield 13, 3)) ?_
  refine gw_ws (ws2 := (h0, .inr (8, [.int 0, .int 0, .int 0, .ref q1, .ref q2, .null, .null, .null, .null, .null, .int 0, .int 0, .null, .null, .int 0, .int 0, .int 0, .null, .int 0, .int 0, .int 0, .null, .null, .null, .null, .null, .null, .int 0, .int 0])) :: ([(q1, aI cI 15540)] ++ [(q2, aI cI 37)])) rfl ?_
  refine gw_al X (by decide +kernel : decode cX8_init 21 = .ok (.aload_n 0, 1)) rfl 0 rfl ?_
  refine gw_bp X (by decide +kernel : decode cX8_init 22 = .ok (.bipush 24, 2)) (by decide) ?_
  refine gw_newz X 24 rfl (Nat.le_of_ble_eq_true rfl) (by decide +kernel : decode cX8_init 24 = .ok (.newarray .boolean, 2)) (Nat.le_of_ble_eq_true rfl) (Nat.le_of_ble_eq_true rfl) (fun q3 => ?_)
  refine gw_wide (c2 := 3) (s2 := 15601) (Nat.le_of_ble_eq_true rfl) (Nat.le_of_ble_eq_true rfl) ?_
  refine gw_putF X 5 hin (by decide) (by decide) (Nat.le_of_ble_eq_true rfl) (bigAt 805 (by decide +kernel) (by decide +kernel)) rfl rfl rfl rfl (by decide +kernel : decode cX8_init 26 = .ok (.putfield 16, 3)) ?_
  refine gw_ws (ws2 := (h0, .inr (8, [.int 0, .int 0, .int 0, .ref q1, .ref q2, .ref q3, .null, .null, .null, .null, .int 0, .int 0, .null, .null, .int 0, .int 0, .int 0, .null, .int 0, .int 0, .int 0, .null, .null, .null, .null, .null, .null, .int 0, .int 0])) :: ([(q1, aI cI 15540)] ++ [(q2, aI cI 37)] ++ [(q3, aI cB 24)])) rfl ?_
  refine gw_al X (by decide +kernel : decode cX8_init 29 = .ok (.aload_n 0, 1)) rfl 0 rfl ?_
  refine gw_bp X (by decide +kernel : decode cX8_init 30 = .ok (.bipush 24, 2)) (by decide) ?_
  refine gw_newi X 24 rfl (Nat.le_of_ble_eq_true rfl) (by decide +kernel : decode cX8_init 32 = .ok (.newarray .int, 2)) (Nat.le_of_ble_eq_true rfl) (Nat.le_of_ble_eq_true rfl) (fun q4 => ?_)
  refine gw_wide (c2 := 4) (s2 := 15625) (Nat.le_of_ble_eq_true rfl) (Nat.le_of_ble_eq_true rfl) ?_
  refine gw_putF X 6 hin (by decide) (by decide) (Nat.le_of_ble_eq_true rfl) (bigAt 806 (by decide +kernel) (by decide +kernel)) rfl rfl rfl rfl (by decide +kernel : decode cX8_init 34 = .ok (.putfield 20, 3)) ?_
  refine gw_ws (ws2 := (h0, .inr (8, [.int 0, .int 0, .int 0, .ref q1, .ref q2, .ref q3, .ref q4, .null, .null, .null, .int 0, .int 0, .null, .null, .int 0, .int 0, .int 0, .null, .int 0, .int 0, .int 0, .null, .null, .null, .null, .null, .null, .int 0, .int 0])) :: ([(q1, aI cI 15540)] ++ [(q2, aI cI 37)] ++ [(q3, aI cB 24)] ++ [(q4, aI cI 24)])) rfl ?_
  refine gw_al X (by decide +kernel : decode cX8_init 37 = .ok (.aload_n 0, 1)) rfl 0 rfl ?_
  refine gw_bp X (by decide +kernel : decode cX8_init 38 = .ok (.bipush 24, 2)) (by decide) ?_
  refine gw_newi X 24 rfl (Nat.le_of_ble_eq_true rfl) (by decide +kernel : decode cX8_init 40 = .ok (.newarray .int, 2)) (Nat.le_of_ble_eq_true rfl) (Nat.le_of_ble_eq_true rfl) (fun q5 => ?_)
  refine gw_wide (c2 := 5) (s2 := 15649) (Nat.le_of_ble_eq_true rfl) (Nat.le_of_ble_eq_true rfl) ?_
  refine gw_putF X 7 hin (by decide) (by decide) (Nat.le_of_ble_eq_true rfl) (bigAt 807 (by decide +kernel) (by decide +kernel)) rfl rfl rfl rfl (by decide +kernel : decode cX8_init 42 = .ok (.putfield 23, 3)) ?_
  refine gw_ws (ws2 := (h0, .inr (8, [.int 0, .int 0, .int 0, .ref q1, .ref q2, .ref q3, .ref q4, .ref q5, .null, .null, .int 0, .int 0, .null, .null, .int 0, .int 0, .int 0, .null, .int 0, .int 0, .int 0, .null, .null, .null, .null, .null, .null, .int 0, .int 0])) :: ([(q1, aI cI 15540)] ++ [(q2, aI cI 37)] ++ [(q3, aI cB 24)] ++ [(q4, aI cI 24)] ++ [(q5, aI cI 24)])) rfl ?_
  refine gw_al X (by decide +kernel : decode cX8_init 45 = .ok (.aload_n 0, 1)) rfl 0 rfl ?_
  refine gw_bp X (by decide +kernel : decode cX8_init 46 = .ok (.bipush 8, 2)) (by decide) ?_
  refine gw_newi X 8 rfl (Nat.le_of_ble_eq_true rfl) (by decide +kernel : decode cX8_init 48 = .ok (.newarray .int, 2)) (Nat.le_of_ble_eq_true rfl) (Nat.le_of_ble_eq_true rfl) (fun q6 => ?_)
  refine gw_wide (c2 := 6) (s2 := 15657) (Nat.le_of_ble_eq_true rfl) (Nat.le_of_ble_eq_true rfl) ?_
  refine gw_putF X 8 hin (by decide) (by decide) (Nat.le_of_ble_eq_true rfl) (bigAt 808 (by decide +kernel) (by decide +kernel)) rfl rfl rfl rfl (by decide +kernel : decode cX8_init 50 = .ok (.putfield 26, 3)) ?_
  refine gw_ws (ws2 := (h0, .inr (8, [.int 0, .int 0, .int 0, .ref q1, .ref q2, .ref q3, .ref q4, .ref q5, .ref q6, .null, .int 0, .int 0, .null, .null, .int 0, .int 0, .int 0, .null, .int 0, .int 0, .int 0, .null, .null, .null, .null, .null, .null, .int 0, .int 0])) :: ([(q1, aI cI 15540)] ++ [(q2, aI cI 37)] ++ [(q3, aI cB 24)] ++ [(q4, aI cI 24)] ++ [(q5, aI cI 24)] ++ [(q6, aI cI 8)])) rfl ?_
  refine gw_al X (by decide +kernel : decode cX8_init 53 = .ok (.aload_n 0, 1)) rfl 0 rfl ?_
  refine gw_bp X (by decide +kernel : decode cX8_init 54 = .ok (.bipush 8, 2)) (by decide) ?_
  refine gw_newi X 8 rfl (Nat.le_of_ble_eq_true rfl) (by decide +kernel : decode cX8_init 56 = .ok (.newarray .int, 2)) (Nat.le_of_ble_eq_true rfl) (Nat.le_of_ble_eq_true rfl) (fun q7 => ?_)
  refine gw_wide (c2 := 7) (s2 := 15665) (Nat.le_of_ble_eq_true rfl) (Nat.le_of_ble_eq_true rfl) ?_
  refine gw_putF X 9 hin (by decide) (by decide) (Nat.le_of_ble_eq_true rfl) (bigAt 809 (by decide +kernel) (by decide +kernel)) rfl rfl rfl rfl (by decide +kernel : decode cX8_init 58 = .ok (.putfield 29, 3)) ?_
  refine gw_ws (ws2 := (h0, .inr (8, [.int 0, .int 0, .int 0, .ref q1, .ref q2, .ref q3, .ref q4, .ref q5, .ref q6, .ref q7, .int 0, .int 0, .null, .null, .int 0, .int 0, .int 0, .null, .int 0, .int 0, .int 0, .null, .null, .null, .null, .null, .null, .int 0, .int 0])) :: ([(q1, aI cI 15540)] ++ [(q2, aI cI 37)] ++ [(q3, aI cB 24)] ++ [(q4, aI cI 24)] ++ [(q5, aI cI 24)] ++ [(q6, aI cI 8)] ++ [(q7, aI cI 8)])) rfl ?_
  refine gw_al X (by decide +kernel : decode cX8_init 61 = .ok (.aload_n 0, 1)) rfl 0 rfl ?_
  refine gw_sp X (by decide +kernel : decode cX8_init 62 = .ok (.sipush 1000, 3)) (by decide) ?_
  refine gw_newi X 1000 rfl (Nat.le_of_ble_eq_true rfl) (by decide +kernel : decode cX8_init 65 = .ok (.newarray .int, 2)) (Nat.le_of_ble_eq_true rfl) (Nat.le_of_ble_eq_true rfl) (fun q8 => ?_)
  refine gw_wide (c2 := 8) (s2 := 16665) (Nat.le_of_ble_eq_true rfl) (Nat.le_of_ble_eq_true rfl) ?_
  refine gw_putF X 12 hin (by decide) (by decide) (Nat.le_of_ble_eq_true rfl) (bigAt 812 (by decide +kernel) (by decide +kernel)) rfl rfl rfl rfl (by decide +kernel : decode cX8_init 67 = .ok (.putfield 32, 3)) ?_
  refine gw_ws (ws2 := (h0, .inr (8, [.int 0, .int 0, .int 0, .ref q1, .ref q2, .ref q3, .ref q4, .ref q5, .ref q6, .ref q7, .int 0, .int 0, .ref q8, .null, .int 0, .int 0, .int 0, .null, .int 0, .int 0, .int 0, .null, .null, .null, .null, .null, .null, .int 0, .int 0])) :: ([(q1, aI cI 15540)] ++ [(q2, aI cI 37)] ++ [(q3, aI cB 24)] ++ [(q4, aI cI 24)] ++ [(q5, aI cI 24)] ++ [(q6, aI cI 8)] ++ [(q7, aI cI 8)] ++ [(q8, aI cI 1000)])) rfl ?_
  refine gw_al X (by decide +kernel : decode cX8_init 70 = .ok (.aload_n 0, 1)) rfl 0 rfl ?_
  refine gw_sp X (by decide +kernel : decode cX8_init 71 = .ok (.sipush 970, 3)) (by decide) ?_
  refine gw_newi X 970 rfl (Nat.le_of_ble_eq_true rfl) (by decide +kernel : decode cX8_init 74 = .ok (.newarray .int, 2)) (Nat.le_of_ble_eq_true rfl) (Nat.le_of_ble_eq_true rfl) (fun q9 => ?_)
  refine gw_wide (c2 := 9) (s2 := 17635) (Nat.le_of_ble_eq_true rfl) (Nat.le_of_ble_eq_true rfl) ?_
  refine gw_putF X 13 hin (by decide) (by decide) (Nat.le_of_ble_eq_true rfl) (bigAt 813 (by decide +kernel) (by decide +kernel)) rfl rfl rfl rfl (by decide +kernel : decode cX8_init 76 = .ok (.putfield 35, 3)) ?_
  refine gw_ws (ws2 := (h0, .inr (8, [.int 0, .int 0, .int 0, .ref q1, .ref q2, .ref q3, .ref q4, .ref q5, .ref q6, .ref q7, .int 0, .int 0, .ref q8, .ref q9, .int 0, .int 0, .int 0, .null, .int 0, .int 0, .int 0, .null, .null, .null, .null, .null, .null, .int 0, .int 0])) :: ([(q1, aI cI 15540)] ++ [(q2, aI cI 37)] ++ [(q3, aI cB 24)] ++ [(q4, aI cI 24)] ++ [(q5, aI cI 24)] ++ [(q6, aI cI 8)] ++ [(q7, aI cI 8)] ++ [(q8, aI cI 1000)] ++ [(q9, aI cI 970)])) rfl ?_
  refine gw_al X (by decide +kernel : decode cX8_init 79 = .ok (.aload_n 0, 1)) rfl 0 rfl ?_
  refine gw_ic X (by decide +kernel : decode cX8_init 80 = .ok (.iconst (-1), 1)) ?_
  refine gw_put X 16 (by decide) (by decide) (Nat.le_of_ble_eq_true rfl) (bigAt 816 (by decide +kernel) (by decide +kernel)) rfl rfl rfl (by decide +kernel : decode cX8_init 81 = .ok (.putfield 38, 3)) ?_
  refine gw_ws (ws2 := (h0, .inr (8, [.int 0, .int 0, .int 0, .ref q1, .ref q2, .ref q3, .ref q4, .ref q5, .ref q6, .ref q7, .int 0, .int 0, .ref q8, .ref q9, .int 0, .int 0, .int (Int32.ofInt (-1)), .null, .int 0, .int 0, .int 0, .null, .null, .null, .null, .null, .null, .int 0, .int 0])) :: ([(q1, aI cI 15540)] ++ [(q2, aI cI 37)] ++ [(q3, aI cB 24)] ++ [(q4, aI cI 24)] ++ [(q5, aI cI 24)] ++ [(q6, aI cI 8)] ++ [(q7, aI cI 8)] ++ [(q8, aI cI 1000)] ++ [(q9, aI cI 970)])) rfl ?_
  refine gw_al X (by decide +kernel : decode cX8_init 84 = .ok (.aload_n 0, 1)) rfl 0 rfl ?_
  refine gw_sp X (by decide +kernel : decode cX8_init 85 = .ok (.sipush 400, 3)) (by decide) ?_
  refine gw_newi X 400 rfl (Nat.le_of_ble_eq_true rfl) (by decide +kernel : decode cX8_init 88 = .ok (.newarray .int, 2)) (Nat.le_of_ble_eq_true rfl) (Nat.le_of_ble_eq_true rfl) (fun q10 => ?_)
  refine gw_wide (c2 := 10) (s2 := 18035) (Nat.le_of_ble_eq_true rfl) (Nat.le_of_ble_eq_true rfl) ?_
  refine gw_putF X 17 hin (by decide) (by decide) (Nat.le_of_ble_eq_true rfl) (bigAt 817 (by decide +kernel) (by decide +kernel)) rfl rfl rfl rfl (by decide +kernel : decode cX8_init 90 = .ok (.putfield 42, 3)) ?_
  refine gw_ws (ws2 := (h0, .inr (8, [.int 0, .int 0, .int 0, .ref q1, .ref q2, .ref q3, .ref q4, .ref q5, .ref q6, .ref q7, .int 0, .int 0, .ref q8, .ref q9, .int 0, .int 0, .int (Int32.ofInt (-1)), .ref q10, .int 0, .int 0, .int 0, .null, .null, .null, .null, .null, .null, .int 0, .int 0])) :: ([(q1, aI cI 15540)] ++ [(q2, aI cI 37)] ++ [(q3, aI cB 24)] ++ [(q4, aI cI 24)] ++ [(q5, aI cI 24)] ++ [(q6, aI cI 8)] ++ [(q7, aI cI 8)] ++ [(q8, aI cI 1000)] ++ [(q9, aI cI 970)] ++ [(q10, aI cI 400)])) rfl ?_
  refine gw_al X (by decide +kernel : decode cX8_init 93 = .ok (.aload_n 0, 1)) rfl 0 rfl ?_
  refine gw_sp X (by decide +kernel : decode cX8_init 94 = .ok (.sipush 220, 3)) (by decide) ?_
  refine gw_newi X 220 rfl (Nat.le_of_ble_eq_true rfl) (by decide +kernel : decode cX8_init 97 = .ok (.newarray .int, 2)) (Nat.le_of_ble_eq_true rfl) (Nat.le_of_ble_eq_true rfl) (fun q11 => ?_)
  refine gw_wide (c2 := 11) (s2 := 18255) (Nat.le_of_ble_eq_true rfl) (Nat.le_of_ble_eq_true rfl) ?_
  refine gw_putF X 21 hin (by decide) (by decide) (Nat.le_of_ble_eq_true rfl) (bigAt 821 (by decide +kernel) (by decide +kernel)) rfl rfl rfl rfl (by decide +kernel : decode cX8_init 99 = .ok (.putfield 45, 3)) ?_
  refine gw_ws (ws2 := (h0, .inr (8, [.int 0, .int 0, .int 0, .ref q1, .ref q2, .ref q3, .ref q4, .ref q5, .ref q6, .ref q7, .int 0, .int 0, .ref q8, .ref q9, .int 0, .int 0, .int (Int32.ofInt (-1)), .ref q10, .int 0, .int 0, .int 0, .ref q11, .null, .null, .null, .null, .null, .int 0, .int 0])) :: ([(q1, aI cI 15540)] ++ [(q2, aI cI 37)] ++ [(q3, aI cB 24)] ++ [(q4, aI cI 24)] ++ [(q5, aI cI 24)] ++ [(q6, aI cI 8)] ++ [(q7, aI cI 8)] ++ [(q8, aI cI 1000)] ++ [(q9, aI cI 970)] ++ [(q10, aI cI 400)] ++ [(q11, aI cI 220)])) rfl ?_
  refine gw_al X (by decide +kernel : decode cX8_init 102 = .ok (.aload_n 0, 1)) rfl 0 rfl ?_
  refine gw_sp X (by decide +kernel : decode cX8_init 103 = .ok (.sipush 220, 3)) (by decide) ?_
  refine gw_newi X 220 rfl (Nat.le_of_ble_eq_true rfl) (by decide +kernel : decode cX8_init 106 = .ok (.newarray .int, 2)) (Nat.le_of_ble_eq_true rfl) (Nat.le_of_ble_eq_true rfl) (fun q12 => ?_)
  refine gw_wide (c2 := 12) (s2 := 18475) (Nat.le_of_ble_eq_true rfl) (Nat.le_of_ble_eq_true rfl) ?_
  refine gw_putF X 22 hin (by decide) (by decide) (Nat.le_of_ble_eq_true rfl) (bigAt 822 (by decide +kernel) (by decide +kernel)) rfl rfl rfl rfl (by decide +kernel : decode cX8_init 108 = .ok (.putfield 48, 3)) ?_
  refine gw_ws (ws2 := (h0, .inr (8, [.int 0, .int 0, .int 0, .ref q1, .ref q2, .ref q3, .ref q4, .ref q5, .ref q6, .ref q7, .int 0, .int 0, .ref q8, .ref q9, .int 0, .int 0, .int (Int32.ofInt (-1)), .ref q10, .int 0, .int 0, .int 0, .ref q11, .ref q12, .null, .null, .null, .null, .int 0, .int 0])) :: ([(q1, aI cI 15540)] ++ [(q2, aI cI 37)] ++ [(q3, aI cB 24)] ++ [(q4, aI cI 24)] ++ [(q5, aI cI 24)] ++ [(q6, aI cI 8)] ++ [(q7, aI cI 8)] ++ [(q8, aI cI 1000)] ++ [(q9, aI cI 970)] ++ [(q10, aI cI 400)] ++ [(q11, aI cI 220)] ++ [(q12, aI cI 220)])) rfl ?_
  refine gw_al X (by decide +kernel : decode cX8_init 111 = .ok (.aload_n 0, 1)) rfl 0 rfl ?_
  refine gw_sp X (by decide +kernel : decode cX8_init 112 = .ok (.sipush 220, 3)) (by decide) ?_
  refine gw_newi X 220 rfl (Nat.le_of_ble_eq_true rfl) (by decide +kernel : decode cX8_init 115 = .ok (.newarray .int, 2)) (Nat.le_of_ble_eq_true rfl) (Nat.le_of_ble_eq_true rfl) (fun q13 => ?_)
  refine gw_wide (c2 := 13) (s2 := 18695) (Nat.le_of_ble_eq_true rfl) (Nat.le_of_ble_eq_true rfl) ?_
  refine gw_putF X 23 hin (by decide) (by decide) (Nat.le_of_ble_eq_true rfl) (bigAt 823 (by decide +kernel) (by decide +kernel)) rfl rfl rfl rfl (by decide +kernel : decode cX8_init 117 = .ok (.putfield 51, 3)) ?_
  refine gw_ws (ws2 := (h0, .inr (8, [.int 0, .int 0, .int 0, .ref q1, .ref q2, .ref q3, .ref q4, .ref q5, .ref q6, .ref q7, .int 0, .int 0, .ref q8, .ref q9, .int 0, .int 0, .int (Int32.ofInt (-1)), .ref q10, .int 0, .int 0, .int 0, .ref q11, .ref q12, .ref q13, .null, .null, .null, .int 0, .int 0])) :: ([(q1, aI cI 15540)] ++ [(q2, aI cI 37)] ++ [(q3, aI cB 24)] ++ [(q4, aI cI 24)] ++ [(q5, aI cI 24)] ++ [(q6, aI cI 8)] ++ [(q7, aI cI 8)] ++ [(q8, aI cI 1000)] ++ [(q9, aI cI 970)] ++ [(q10, aI cI 400)] ++ [(q11, aI cI 220)] ++ [(q12, aI cI 220)] ++ [(q13, aI cI 220)])) rfl ?_
  refine gw_al X (by decide +kernel : decode cX8_init 120 = .ok (.aload_n 0, 1)) rfl 0 rfl ?_
  refine gw_sp X (by decide +kernel : decode cX8_init 121 = .ok (.sipush 220, 3)) (by decide) ?_
  refine gw_newi X 220 rfl (Nat.le_of_ble_eq_true rfl) (by decide +kernel : decode cX8_init 124 = .ok (.newarray .int, 2)) (Nat.le_of_ble_eq_true rfl) (Nat.le_of_ble_eq_true rfl) (fun q14 => ?_)
  refine gw_wide (c2 := 14) (s2 := 18915) (Nat.le_of_ble_eq_true rfl) (Nat.le_of_ble_eq_true rfl) ?_
  refine gw_putF X 24 hin (by decide) (by decide) (Nat.le_of_ble_eq_true rfl) (bigAt 824 (by decide +kernel) (by decide +kernel)) rfl rfl rfl rfl (by decide +kernel : decode cX8_init 126 = .ok (.putfield 54, 3)) ?_
  refine gw_ws (ws2 := (h0, .inr (8, [.int 0, .int 0, .int 0, .ref q1, .ref q2, .ref q3, .ref q4, .ref q5, .ref q6, .ref q7, .int 0, .int 0, .ref q8, .ref q9, .int 0, .int 0, .int (Int32.ofInt (-1)), .ref q10, .int 0, .int 0, .int 0, .ref q11, .ref q12, .ref q13, .ref q14, .null, .null, .int 0, .int 0])) :: ([(q1, aI cI 15540)] ++ [(q2, aI cI 37)] ++ [(q3, aI cB 24)] ++ [(q4, aI cI 24)] ++ [(q5, aI cI 24)] ++ [(q6, aI cI 8)] ++ [(q7, aI cI 8)] ++ [(q8, aI cI 1000)] ++ [(q9, aI cI 970)] ++ [(q10, aI cI 400)] ++ [(q11, aI cI 220)] ++ [(q12, aI cI 220)] ++ [(q13, aI cI 220)] ++ [(q14, aI cI 220)])) rfl ?_
  refine gw_al X (by decide +kernel : decode cX8_init 129 = .ok (.aload_n 0, 1)) rfl 0 rfl ?_
  refine gw_sp X (by decide +kernel : decode cX8_init 130 = .ok (.sipush 220, 3)) (by decide) ?_
  refine gw_newi X 220 rfl (Nat.le_of_ble_eq_true rfl) (by decide +kernel : decode cX8_init 133 = .ok (.newarray .int, 2)) (Nat.le_of_ble_eq_true rfl) (Nat.le_of_ble_eq_true rfl) (fun q15 => ?_)
  refine gw_wide (c2 := 15) (s2 := 19135) (Nat.le_of_ble_eq_true rfl) (Nat.le_of_ble_eq_true rfl) ?_
  refine gw_putF X 25 hin (by decide) (by decide) (Nat.le_of_ble_eq_true rfl) (bigAt 825 (by decide +kernel) (by decide +kernel)) rfl rfl rfl rfl (by decide +kernel : decode cX8_init 135 = .ok (.putfield 57, 3)) ?_
  refine gw_ws (ws2 := (h0, .inr (8, [.int 0, .int 0, .int 0, .ref q1, .ref q2, .ref q3, .ref q4, .ref q5, .ref q6, .ref q7, .int 0, .int 0, .ref q8, .ref q9, .int 0, .int 0, .int (Int32.ofInt (-1)), .ref q10, .int 0, .int 0, .int 0, .ref q11, .ref q12, .ref q13, .ref q14, .ref q15, .null, .int 0, .int 0])) :: ([(q1, aI cI 15540)] ++ [(q2, aI cI 37)] ++ [(q3, aI cB 24)] ++ [(q4, aI cI 24)] ++ [(q5, aI cI 24)] ++ [(q6, aI cI 8)] ++ [(q7, aI cI 8)] ++ [(q8, aI cI 1000)] ++ [(q9, aI cI 970)] ++ [(q10, aI cI 400)] ++ [(q11, aI cI 220)] ++ [(q12, aI cI 220)] ++ [(q13, aI cI 220)] ++ [(q14, aI cI 220)] ++ [(q15, aI cI 220)])) rfl ?_
  refine gw_al X (by decide +kernel : decode cX8_init 138 = .ok (.aload_n 0, 1)) rfl 0 rfl ?_
  refine gw_sp X (by decide +kernel : decode cX8_init 139 = .ok (.sipush 4000, 3)) (by decide) ?_
  refine gw_newi X 4000 rfl (Nat.le_of_ble_eq_true rfl) (by decide +kernel : decode cX8_init 142 = .ok (.newarray .int, 2)) (Nat.le_of_ble_eq_true rfl) (Nat.le_of_ble_eq_true rfl) (fun q16 => ?_)
  refine gw_wide (c2 := 16) (s2 := 23135) (Nat.le_of_ble_eq_true rfl) (Nat.le_of_ble_eq_true rfl) ?_
  refine gw_putF X 26 hin (by decide) (by decide) (Nat.le_of_ble_eq_true rfl) (bigAt 826 (by decide +kernel) (by decide +kernel)) rfl rfl rfl rfl (by decide +kernel : decode cX8_init 144 = .ok (.putfield 60, 3)) ?_
  refine gw_ws (ws2 := (h0, .inr (8, [.int 0, .int 0, .int 0, .ref q1, .ref q2, .ref q3, .ref q4, .ref q5, .ref q6, .ref q7, .int 0, .int 0, .ref q8, .ref q9, .int 0, .int 0, .int (Int32.ofInt (-1)), .ref q10, .int 0, .int 0, .int 0, .ref q11, .ref q12, .ref q13, .ref q14, .ref q15, .ref q16, .int 0, .int 0])) :: ([(q1, aI cI 15540)] ++ [(q2, aI cI 37)] ++ [(q3, aI cB 24)] ++ [(q4, aI cI 24)] ++ [(q5, aI cI 24)] ++ [(q6, aI cI 8)] ++ [(q7, aI cI 8)] ++ [(q8, aI cI 1000)] ++ [(q9, aI cI 970)] ++ [(q10, aI cI 400)] ++ [(q11, aI cI 220)] ++ [(q12, aI cI 220)] ++ [(q13, aI cI 220)] ++ [(q14, aI cI 220)] ++ [(q15, aI cI 220)] ++ [(q16, aI cI 4000)])) rfl ?_
  refine gw_al X (by decide +kernel : decode cX8_init 147 = .ok (.aload_n 0, 1)) rfl 0 rfl ?_
  refine gw_il X (by decide +kernel : decode cX8_init 148 = .ok (.iload_n 1, 1)) rfl 1 rfl ?_
  refine gw_ic X (by decide +kernel : decode cX8_init 149 = .ok (.iconst 1, 1)) ?_
  refine gw_bp X (by decide +kernel : decode cX8_init 150 = .ok (.bipush 24, 2)) (by decide) ?_
  refine gw_stat X (As := [.int x1, .int (Int32.ofInt 1), .int (Int32.ofInt 24)]) (rest := [.ref h0]) (s_X8near l x1 1 24 (by decide) (by decide) (by decide)) (fun a U g mk q => q) (fun _ _ _ _ _ _ => trivial) (bigAt 797 (by decide +kernel) (by decide +kernel)) sw_yX8_near nw_RX8 cw_yX8_near ⟨by decide, by decide, by show _ = some 3; decide +kernel⟩ ⟨(Nat.le_of_ble_eq_true rfl), (Nat.le_of_ble_eq_true rfl)⟩ (Nat.le_of_ble_eq_true rfl) (by decide +kernel : decode cX8_init 152 = .ok (.invokestatic 63, 3)) (Nat.le_of_ble_eq_true rfl) (Nat.le_of_ble_eq_true rfl) ?_
  refine gw_putF X 0 hin (by decide) (by decide) (Nat.le_of_ble_eq_true rfl) (bigAt 800 (by decide +kernel) (by decide +kernel)) rfl rfl rfl rfl (by decide +kernel : decode cX8_init 155 = .ok (.putfield 67, 3)) ?_
  refine gw_ws (ws2 := (h0, .inr (8, [.int (Int32.ofNat (nrN x1 1 24)), .int 0, .int 0, .ref q1, .ref q2, .ref q3, .ref q4, .ref q5, .ref q6, .ref q7, .int 0, .int 0, .ref q8, .ref q9, .int 0, .int 0, .int (Int32.ofInt (-1)), .ref q10, .int 0, .int 0, .int 0, .ref q11, .ref q12, .ref q13, .ref q14, .ref q15, .ref q16, .int 0, .int 0])) :: ([(q1, aI cI 15540)] ++ [(q2, aI cI 37)] ++ [(q3, aI cB 24)] ++ [(q4, aI cI 24)] ++ [(q5, aI cI 24)] ++ [(q6, aI cI 8)] ++ [(q7, aI cI 8)] ++ [(q8, aI cI 1000)] ++ [(q9, aI cI 970)] ++ [(q10, aI cI 400)] ++ [(q11, aI cI 220)] ++ [(q12, aI cI 220)] ++ [(q13, aI cI 220)] ++ [(q14, aI cI 220)] ++ [(q15, aI cI 220)] ++ [(q16, aI cI 4000)])) rfl ?_
  refine gw_al X (by decide +kernel : decode cX8_init 158 = .ok (.aload_n 0, 1)) rfl 0 rfl ?_
  refine gw_il X (by decide +kernel : decode cX8_init 159 = .ok (.iload_n 2, 1)) rfl 2 rfl ?_
  refine gw_bp X (by decide +kernel : decode cX8_init 160 = .ok (.bipush 16, 2)) (by decide) ?_
  refine gw_sp X (by decide +kernel : decode cX8_init 162 = .ok (.sipush 800, 3)) (by decide) ?_
  refine gw_stat X (As := [.int x2, .int (Int32.ofInt 16), .int (Int32.ofInt 800)]) (rest := [.ref h0]) (s_X8near l x2 16 800 (by decide) (by decide) (by decide)) (fun a U g mk q => q) (fun _ _ _ _ _ _ => trivial) (bigAt 797 (by decide +kernel) (by decide +kernel)) sw_yX8_near nw_RX8 cw_yX8_near ⟨by decide, by decide, by show _ = some 3; decide +kernel⟩ ⟨(Nat.le_of_ble_eq_true rfl), (Nat.le_of_ble_eq_true rfl)⟩ (Nat.le_of_ble_eq_true rfl) (by decide +kernel : decode cX8_init 165 = .ok (.invokestatic 63, 3)) (Nat.le_of_ble_eq_true rfl) (Nat.le_of_ble_eq_true rfl) ?_
  refine gw_putF X 1 hin (by decide) (by decide) (Nat.le_of_ble_eq_true rfl) (bigAt 801 (by decide +kernel) (by decide +kernel)) rfl rfl rfl rfl (by decide +kernel : decode cX8_init 168 = .ok (.putfield 70, 3)) ?_
  refine gw_ws (ws2 := (h0, .inr (8, [.int (Int32.ofNat (nrN x1 1 24)), .int (Int32.ofNat (nrN x2 16 800)), .int 0, .ref q1, .ref q2, .ref q3, .ref q4, .ref q5, .ref q6, .ref q7, .int 0, .int 0, .ref q8, .ref q9, .int 0, .int 0, .int (Int32.ofInt (-1)), .ref q10, .int 0, .int 0, .int 0, .ref q11, .ref q12, .ref q13, .ref q14, .ref q15, .ref q16, .int 0, .int 0])) :: ([(q1, aI cI 15540)] ++ [(q2, aI cI 37)] ++ [(q3, aI cB 24)] ++ [(q4, aI cI 24)] ++ [(q5, aI cI 24)] ++ [(q6, aI cI 8)] ++ [(q7, aI cI 8)] ++ [(q8, aI cI 1000)] ++ [(q9, aI cI 970)] ++ [(q10, aI cI 400)] ++ [(q11, aI cI 220)] ++ [(q12, aI cI 220)] ++ [(q13, aI cI 220)] ++ [(q14, aI cI 220)] ++ [(q15, aI cI 220)] ++ [(q16, aI cI 4000)])) rfl ?_
  refine gw_al X (by decide +kernel : decode cX8_init 171 = .ok (.aload_n 0, 1)) rfl 0 rfl ?_
  refine gw_il X (by decide +kernel : decode cX8_init 172 = .ok (.iload_n 3, 1)) rfl 3 rfl ?_
  refine gw_bp X (by decide +kernel : decode cX8_init 173 = .ok (.bipush 8, 2)) (by decide) ?_
  refine gw_sp X (by decide +kernel : decode cX8_init 175 = .ok (.sipush 400, 3)) (by decide) ?_
  refine gw_stat X (As := [.int x3, .int (Int32.ofInt 8), .int (Int32.ofInt 400)]) (rest := [.ref h0]) (s_X8near l x3 8 400 (by decide) (by decide) (by decide)) (fun a U g mk q => q) (fun _ _ _ _ _ _ => trivial) (bigAt 797 (by decide +kernel) (by decide +kernel)) sw_yX8_near nw_RX8 cw_yX8_near ⟨by decide, by decide, by show _ = some 3; decide +kernel⟩ ⟨(Nat.le_of_ble_eq_true rfl), (Nat.le_of_ble_eq_true rfl)⟩ (Nat.le_of_ble_eq_true rfl) (by decide +kernel : decode cX8_init 178 = .ok (.invokestatic 63, 3)) (Nat.le_of_ble_eq_true rfl) (Nat.le_of_ble_eq_true rfl) ?_
  refine gw_putF X 2 hin (by decide) (by decide) (Nat.le_of_ble_eq_true rfl) (bigAt 802 (by decide +kernel) (by decide +kernel)) rfl rfl rfl rfl (by decide +kernel : decode cX8_init 181 = .ok (.putfield 73, 3)) ?_
  refine gw_ws (ws2 := (h0, .inr (8, [.int (Int32.ofNat (nrN x1 1 24)), .int (Int32.ofNat (nrN x2 16 800)), .int (Int32.ofNat (nrN x3 8 400)), .ref q1, .ref q2, .ref q3, .ref q4, .ref q5, .ref q6, .ref q7, .int 0, .int 0, .ref q8, .ref q9, .int 0, .int 0, .int (Int32.ofInt (-1)), .ref q10, .int 0, .int 0, .int 0, .ref q11, .ref q12, .ref q13, .ref q14, .ref q15, .ref q16, .int 0, .int 0])) :: ([(q1, aI cI 15540)] ++ [(q2, aI cI 37)] ++ [(q3, aI cB 24)] ++ [(q4, aI cI 24)] ++ [(q5, aI cI 24)] ++ [(q6, aI cI 8)] ++ [(q7, aI cI 8)] ++ [(q8, aI cI 1000)] ++ [(q9, aI cI 970)] ++ [(q10, aI cI 400)] ++ [(q11, aI cI 220)] ++ [(q12, aI cI 220)] ++ [(q13, aI cI 220)] ++ [(q14, aI cI 220)] ++ [(q15, aI cI 220)] ++ [(q16, aI cI 4000)])) rfl ?_
  exact hret (fun k => [q1, q2, q3, q4, q5, q6, q7, q8, q9, q10, q11, q12, q13, q14, q15, q16].getD k 0) _ _ (by decide +kernel : decode cX8_init 184 = .ok (.return_, 1))
