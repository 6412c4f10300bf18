/-! THE CLAIM OUT OF ONE WALK OF THE LAW'S BODY. Your part is whole_start (and what it stands on); all else here is the same for every law, but numbers. -/
def R_law : String := "NumberArenaLaw"
def lw_P (b : Addr) (xs : List Int32) (args : Array Value) (s : State) : Prop := args = #[.ref b] ∧ s.IntsAt b xs ∧ xs.length ≤ 3075 ∧ (Jvm.Cond.and given_1 narrow_1).before args s = true
def lw_Q (_ : Array Value) (s : State) (o : Outcome) (t : State) : Prop := o = .returned (some (.int 1)) ∧ Framed s o t [] 600000 7302250
def lw_Z (below : List Frame) (a : Array Value) (s : State) : State → Prop := fun t => ∃ o, t.status = .running ∧ Ended t below o ∧ lw_Q a s o t
/-- the law's own end, with 1 on the stack, nothing written that was there before, its room as the claim has it -/
theorem lw_ret {p : Program} {l : Launch} {e : Env} {s : State} {m : MethodId} {below : List Frame} {meth : Method} {c : Code} {b : Nat} (hx : p.tables.exec = Jvm.exec) (hb : c.code = code) (hr : meth.sig.returnType = ret) (hlocks : meth.locks = false) {pc : Nat} {H : Heap} {ls : Array Slot} (hdg : decode code pc = .ok (.ireturn, 1)) : W p l e room_1 s m #[Value.ref b] below meth c H [] 600000 7302250 (lw_Z below #[Value.ref b] s) (F0 m pc ls [.int 1]) := by
  intro T hT X
  obtain ⟨fs, hret, hrun, hended, hW, hframe⟩ := X.leave (v := some (.int 1)) (hlocks := hlocks) (fun h => by rw [hr] at h; cases h)
  have hmeth' : T.vm.method? m = some meth := X.method'
  refine ⟨T.setFrames fs, ?_, .returned (some (.int 1)), hrun, hended, rfl, ⟨_, rfl⟩, hW, hframe⟩
  jvm_step X.here [X.here.top, hx, hb, hdg, hmeth', hr, ret, narrow_b1]
  (try refine ⟨rfl, ?_⟩); (try refine ⟨rfl, ?_⟩)
  first | (intro acts; rw [hret _ acts rfl rfl rfl]) | rw [hret _ _ rfl rfl rfl]
  exact Steps.refl _
/-- what holds at the law's entry: the machine, the code, the tables' words (any of lw_tbl by 'hts w (by decide +kernel)'), the script of L ints xs at the cell b, what the Statement gives of the start (any of its parts by flat_of_before) -/
def lw_At (p : Program) (s : State) (m : MethodId) (meth : Method) (c : Code) (b L : Nat) (xs : Nat → Int32) : Prop :=
  p.tables.exec = Jvm.exec ∧ c.code = code ∧ meth.sig.returnType = ret ∧ c.maxLocals = 4 ∧ s.vm.findClass R_law = some m.cls ∧ (∀ w ∈ lw_tbl, w.before #[Value.ref b] s = true) ∧ va_X b L xs s s.heap ∧ b < s.heap.size ∧ meth.locks = false ∧ (Jvm.Cond.and given_1 narrow_1).before #[Value.ref b] s = true
set_option maxHeartbeats 4000000 in
/-- the script's k-th int, or 0 -/
theorem s_Lcell (l : Launch) (b L : Nat) (xs : Nat → Int32) (hL : L ≤ 3075) (k : Nat) (hk : k ≤ 2) : Sta l yL_cell cL_cell 2 1 (fun U => va_X b L xs U U.heap ∧ b < U.heap.size) [.ref b, .int (Int32.ofInt (k : Int))] (if k < L then xs k else 0) := by
  refine Met.ofW (cc := cL_cell) (maxL := 2) (ret := some .int) (by decide) rfl ?_
  intro p e s m args below meth c s₁ B hml hv
  obtain ⟨rfl, hX, hbl⟩ := hv
  have hx := B.exec
  have hb := B.bytes
  have hlocks := B.notSynchronized
  have hl := lv_entry ([.ref b, .int (Int32.ofInt (k : Int))]) (n := 2) (Nat.le_of_ble_eq_true rfl)
  rw [lg_entry_eq]
  generalize (lg_sl ([.ref b, .int (Int32.ofInt (k : Int))]) ++ List.replicate (2 - (lg_sl ([.ref b, .int (Int32.ofInt (k : Int))])).length) Slot.unset).toArray = ls at hl ⊢
  have hl : lv_has ls 2 [(0, .ref b), (1, .int (Int32.ofInt (k : Int)))] := hl
  have hS : va_S (fun _ => False) s.heap s.heap [] := va_S.rf
  have ek : Int32.ofInt (k : Int) = Int32.ofNat k := Int32.ofInt_eq_ofNat
  have fin : ∀ r : Int32, r = (if k < L then xs k else 0) → W p l e (headSpec (WSy yL_cell cL_cell 2 (some .int)) (rmc 1 0 0)).room s m [Value.ref b, .int (Int32.ofInt (k : Int))].toArray below meth c s.heap [] 0 0 (MQ below (va_Qi (fun r' (_ : Unit) => r' = (if k < L then xs k else 0)) (fun _ _ => True) (fun _ => False)) [Value.ref b, .int (Int32.ofInt (k : Int))].toArray s 0 0 (fun _ => False)) (F0 m 13 ls [.int r]) := by
    intro r hr
    exact W.iret hx hb B.returns (fun t ht hW => ⟨⟨_, (), rfl, hr, trivial⟩, Nat.le_of_eq (by rw [ht]), fun q _ _ => by rw [ht]⟩) (fun q hq => by cases hq) (by decide +kernel : decode cL_cell 13 = .ok (.ireturn, 1))
  have hle : Int32.ofNat L ≤ Int32.ofInt (k : Int) ↔ L ≤ k := by
    rw [ek, Int32.le_iff_toInt_le, Int32.toInt_ofNat_of_lt (by omega), Int32.toInt_ofNat_of_lt (by omega)]
    omega
  refine lv_iload_n hx hb (by decide +kernel : decode cL_cell 0 = .ok (.iload_n 1, 1)) rfl (lv_at hl 1 rfl) ?_
  refine lv_aload_n hx hb (by decide +kernel : decode cL_cell 1 = .ok (.aload_n 0, 1)) rfl (lv_at hl 0 rfl) ?_
  refine va_slen hx hb hX hbl (fun h => h) hS (by decide +kernel : decode cL_cell 2 = .ok (.arraylength, 1)) ?_
  refine lv_icmp_ge hx hb (tgt := 12) (by decide +kernel : decode cL_cell 3 = .ok (.if_icmp .ge 9, 3)) rfl (fun hc => ?_) (fun hc => ?_)
  · rw [hle] at hc
    refine lv_iconst (v := 0) hx hb (by decide +kernel : decode cL_cell 12 = .ok (.iconst 0, 1)) rfl ?_
    exact fin 0 (by rw [if_neg (by omega)])
  · rw [hle] at hc
    refine lv_aload_n hx hb (by decide +kernel : decode cL_cell 6 = .ok (.aload_n 0, 1)) rfl (lv_at hl 0 rfl) ?_
    refine lv_iload_n hx hb (by decide +kernel : decode cL_cell 7 = .ok (.iload_n 1, 1)) rfl (lv_at hl 1 rfl) ?_
    have e2 : (Int32.ofInt (k : Int)).toNatClampNeg = k := by rw [ek]; exact (ofNat_big (by omega)).2
    refine va_sld hx hb hX hbl (fun h => h) hS (i := Int32.ofInt (k : Int)) (fun hq => ?_) (by decide +kernel : decode cL_cell 8 = .ok (.iaload, 1)) ?_
    · rcases hq with hq | hq
      · rw [ek] at hq
        exact (ofNat_big (by omega)).1 hq
      · rw [e2] at hq
        omega
    · rw [e2]
      refine lv_goto hx hb (tgt := 13) (by decide +kernel : decode cL_cell 9 = .ok (.goto 4, 3)) rfl ?_
      exact fin _ (by rw [if_pos (by omega)])
section LOOP
variable {p : Program} {l : Launch} {e : Env} {s : State} {m : MethodId} {below : List Frame} {meth : Method} {c : Code} {x0 : Jvm.Cond} {Z : ZT} {b L : Nat} {xs : Nat → Int32}
set_option maxHeartbeats 4000000 in
theorem lw_body (X : CX p s m #[Value.ref b] c code 4 RL (x0 :: BIG) Z) (S : LSc s Z b L xs) (hZ : ZOk Z) {Q : State → Prop} {i : Nat} {M : Mem} (hi : i + 5 < L) (hI : INV (zN Z) M) (hE : ∀ M2, INV (zN Z) M2 → LW p l e s m #[Value.ref b] below meth c Z Q 1139 (LC i) [] M2) : LW p l e s m #[Value.ref b] below meth c Z Q 57 (LC i) [] M := by
  have k63 : LW p l e s m #[Value.ref b] below meth c Z Q 63 (LC i) [.inl (xs i &&& Int32.ofInt 31).toInt] M := by
    refine lw_sw X (d := 1076) (lo := 0) (hi := 28) (os := #[129, 152, 175, 208, 251, 284, 317, 340, 363, 406, 449, 492, 545, 598, 641, 674, 717, 750, 783, 846, 869, 902, 915, 948, 971, 994, 1017, 1030, 1053]) (len := 129) (dt := 1139) (ts := [192, 215, 238, 271, 314, 347, 380, 403, 426, 469, 512, 555, 608, 661, 704, 737, 780, 813, 846, 909, 932, 965, 978, 1011, 1034, 1057, 1080, 1093, 1116]) (by decide) (by decide) (by decide +kernel) (inR_i _) (hE M hI) ?_
    intro k t hk
    have ht := List.mem_of_getElem? hk
    simp only [List.mem_cons, List.not_mem_nil, or_false] at ht
    rcases ht with rfl | rfl | rfl | rfl | rfl | rfl | rfl | rfl | rfl | rfl | rfl | rfl | rfl | rfl | rfl | rfl | rfl | rfl | rfl | rfl | rfl | rfl | rfl | rfl | rfl | rfl | rfl | rfl | rfl
    · exact lc_alloc X S hZ hi hI hE
    · exact lc_release X S hZ hi hI hE
    · exact lc_resize X S hZ hi hI hE
    · exact lc_setLimb X S hZ hi hI hE
    · exact lc_limb X S hZ hi hI hE
    · exact lc_look X S hZ hi hI hE
    · exact lc_about X S hZ hi hI hE
    · exact lc_cell X S hZ hi hI hE
    · exact lc_add X S hZ hi hI hE
    · exact lc_sub X S hZ hi hI hE
    · exact lc_mul X S hZ hi hI hE
    · exact lc_divmod X S hZ hi hI hE
    · exact lc_powmod X S hZ hi hI hE
    · exact lc_gcd X S hZ hi hI hE
    · exact lc_root X S hZ hi hI hE
    · exact lc_shift X S hZ hi hI hE
    · exact lc_compare X S hZ hi hI hE
    · exact lc_jacobi X S hZ hi hI hE
    · exact lc_feed X S hZ hi hI hE
    · exact lc_end X S hZ hi hI hE
    · exact lc_number X S hZ hi hI hE
    · exact lc_fault X S hZ hi hI hE
    · exact lc_text X S hZ hi hI hE
    · exact lc_out X S hZ hi hI hE
    · exact lc_word X S hZ hi hI hE
    · exact lc_told X S hZ hi hI hE
    · exact lc_clear X S hZ hi hI hE
    · exact lc_check X S hZ hi hI hE
    · exact lc_prove X S hZ hi hI hE
  have k60 : LW p l e s m #[Value.ref b] below meth c Z Q 60 (LC i) [xA xs i] M := by
    intro H locs ls hl hP hS
    refine lv_bipush X.1 X.2.1 (v := Int32.ofInt 31) (by decide +kernel : decode code 60 = .ok (.bipush 31, 2)) (by decide) ?_
    refine lv_iand X.1 X.2.1 (by decide +kernel : decode code 62 = .ok (.iand, 1)) ?_
    have := k63 H locs ls hl hP hS
    rw [List.map_cons, show cvF Z (.inl (xs i &&& Int32.ofInt 31).toInt) = .int (Int32.ofInt (xs i).toInt &&& Int32.ofInt 31) by show Value.int (Int32.ofInt _) = _; rw [Int32.ofInt_toInt, Int32.ofInt_toInt]] at this
    exact this
  have k59 := lw_read X S (pc := 59) (k := i) (lc := LC i) (st := []) (by omega) (by decide +kernel : decode code 59 = .ok (.iaload, 1)) k60
  intro H locs ls hl hP hS
  refine lv_aload_n X.1 X.2.1 (by decide +kernel : decode code 57 = .ok (.aload_n 0, 1)) rfl (LH.get hl (j := 0) rfl) ?_
  refine lv_iload_n X.1 X.2.1 (by decide +kernel : decode code 58 = .ok (.iload_n 3, 1)) rfl (LH.get hl (j := 3) rfl) ?_
  exact k59 H locs ls hl hP hS
set_option maxHeartbeats 4000000 in
theorem lw_loop (X : CX p s m #[Value.ref b] c code 4 RL (x0 :: BIG) Z) (S : LSc s Z b L xs) (hZ : ZOk Z) (hsz : ∀ q, zB Z q → s.heap.size ≤ q) (hr : meth.sig.returnType = ret) (hlocks : meth.locks = false) :
    ∀ (k i : Nat) (M : Mem), L - i < k → i ≤ L + 6 → INV (zN Z) M → LW p l e s m #[Value.ref b] below meth c Z (lw_Z below #[Value.ref b] s) 48 (LC i) [] M := by
  intro k
  induction k with
  | zero => intro i M h; omega
  | succ k ih =>
    intro i M hk hiL hI
    have hL := S.2.2.2.2
    have hend : LW p l e s m #[Value.ref b] below meth c Z (lw_Z below #[Value.ref b] s) 1145 (LC i) [] M := by
      intro H locs ls hl hP hS
      refine lv_iconst (v := 1) X.1 X.2.1 (by decide +kernel : decode code 1145 = .ok (.iconst 1, 1)) rfl ?_
      refine va_forget (fun q hq => hsz _ (hS.2.2 q hq)) ?_
      exact lw_ret X.1 X.2.1 hr hlocks (by decide +kernel : decode code 1146 = .ok (.ireturn, 1))
    have hbody : i + 5 < L → LW p l e s m #[Value.ref b] below meth c Z (lw_Z below #[Value.ref b] s) 57 (LC i) [] M := by
      intro h5
      refine lw_body X S hZ h5 hI (fun M2 hI2 => ?_)
      have nx := ih (i + 6) M2 (by omega) (by omega) hI2
      intro H locs ls hl hP hS
      obtain ⟨hlen, lv, h1, h2⟩ := hl
      obtain ⟨q, hq⟩ := List.getElem?_of_mem (h2 3 (.inl (i : Int)) rfl)
      refine lv_iinc (v := Int32.ofInt ((i : Int) + 6)) X.1 X.2.1 (by decide +kernel : decode code 1139 = .ok (.iinc 3 6, 3)) h1 hq (Int32.ofInt_add _ _).symm (by decide) rfl (fun ls' hl' => ?_)
      refine lv_goto X.1 X.2.1 (tgt := 48) (by decide +kernel : decode code 1142 = .ok (.goto (-1094), 3)) rfl ?_
      have hL2 : LH Z ls' 4 (sv1 (LC i) 3 (.inl ((i : Int) + 6))) := LH.one (v := .inl ((i : Int) + 6)) hlen h2 hl'
      exact nx H locs ls' hL2 hP hS
    intro H locs ls hl hP hS
    refine lv_iload_n X.1 X.2.1 (by decide +kernel : decode code 48 = .ok (.iload_n 3, 1)) rfl (LH.get hl (j := 3) rfl) ?_
    have h67 : ls[0]? = some (.val (.ref b)) := by
      have h := LH.get hl (j := 0) (w := .inr (.inr 67)) rfl
      rw [h]
      show some (Slot.val (Value.ref (zA Z 67))) = _
      rw [S.2.2.2.1]
    refine lv_aload_n X.1 X.2.1 (by decide +kernel : decode code 49 = .ok (.aload_n 0, 1)) rfl h67 ?_
    refine va_slen X.1 X.2.1 S.1 S.2.1 S.2.2.1 hS (by decide +kernel : decode code 50 = .ok (.arraylength, 1)) ?_
    refine lv_bipush X.1 X.2.1 (v := Int32.ofInt 6) (by decide +kernel : decode code 51 = .ok (.bipush 6, 2)) (by decide) ?_
    refine lv_isub X.1 X.2.1 (by decide +kernel : decode code 53 = .ok (.isub, 1)) ?_
    have e1 : Int32.ofNat L - Int32.ofInt 6 = Int32.ofInt ((L : Int) - 6) := by
      rw [Int32.ofInt_sub, ← Int32.ofInt_eq_ofNat]
    rw [e1]
    have e2 : Int32.ofInt ((L : Int) - 6) < Int32.ofInt (i : Int) ↔ (L : Int) - 6 < (i : Int) := inR_lt ⟨by omega, by omega⟩ ⟨by omega, by omega⟩
    refine lv_icmp_gt X.1 X.2.1 (tgt := 1145) (by decide +kernel : decode code 54 = .ok (.if_icmp .gt 1091, 3)) rfl (fun hc => ?_) (fun hc => ?_)
    · exact hend H locs ls hl hP hS
    · rw [e2] at hc
      exact hbody (by omega) H locs ls hl hP hS
end LOOP
theorem inst_w : ∀ ci, ci < 9 → Jvm.Cond.instantiable (tnF ci) (nfF ci) ∈ BIG
  | 0, _ => bigAt 119 (by decide +kernel) (by decide +kernel)
  | 1, _ => bigAt 84 (by decide +kernel) (by decide +kernel)
  | 2, _ => bigAt 202 (by decide +kernel) (by decide +kernel)
  | 3, _ => bigAt 188 (by decide +kernel) (by decide +kernel)
  | 4, _ => bigAt 246 (by decide +kernel) (by decide +kernel)
  | 5, _ => bigAt 125 (by decide +kernel) (by decide +kernel)
  | 6, _ => bigAt 174 (by decide +kernel) (by decide +kernel)
  | 7, _ => bigAt 67 (by decide +kernel) (by decide +kernel)
  | 8, _ => bigAt 792 (by decide +kernel) (by decide +kernel)
  | n + 9, h => absurd h (by omega)
set_option maxHeartbeats 8000000 in
set_option maxRecDepth 100000 in
/-- from the entry: both objects are made, then the loop -/
theorem whole_start {p : Program} {e : Env} {s : State} {m : MethodId} {below : List Frame} {meth : Method} {c : Code} (l : Launch) {b L : Nat} {xs : Nat → Int32} (hL : L ≤ 3075) (C0 : lw_At p s m meth c b L xs) : W p l e room_1 s m #[Value.ref b] below meth c s.heap [] 0 0 (lw_Z below #[Value.ref b] s) (entryFrame m ([Value.ref b] : List Value).toArray 4) := by
  obtain ⟨hx, hb, hr, hml, hown, hts0, hX, hbl, hlocks, -⟩ := C0
  have hown : s.vm.findClass RL = some m.cls := hown
  have hts : ∀ w ∈ BIG, w.before #[Value.ref b] s = true := fun w hw => hts0 w (big_in w hw)
  have hKn : ∀ ci, ∃ (cC : ClassId) (iS : Nat → Nat), ci < 9 → u_Kn s (tnF ci) (ttF ci) (nfF ci) cC iS := by
    intro ci
    by_cases h : ci < 9
    · obtain ⟨cC, iS, h1⟩ := u_known hts (kindF ci h).2.1 (hts _ (inst_w ci h))
      exact ⟨cC, iS, fun _ => h1⟩
    · exact ⟨m.cls, fun _ => 0, fun h' => absurd h' h⟩
  obtain ⟨D, hD⟩ : ∃ D : va_G, ∀ ci, ci < 9 → u_Kn s (tnF ci) (ttF ci) (nfF ci) (D.1 ci) (D.2 ci) := ⟨((fun ci => Classical.choose (hKn ci)), (fun ci => Classical.choose (Classical.choose_spec (hKn ci)))), fun ci h => Classical.choose_spec (Classical.choose_spec (hKn ci)) h⟩
  obtain ⟨cI, kI, pI, f1, f2, f3⟩ := Cond.arrayClass_spec (hts (.arrayClass .int) (bigAt 117 (by decide +kernel) (by decide +kernel)))
  obtain ⟨cB, kB, pB, g1, g2, g3⟩ := Cond.arrayClass_spec (hts (.arrayClass .boolean) (bigAt 888 (by decide +kernel) (by decide +kernel)))
  have hK : va_K D vwCl [(cI, .int), (cB, .boolean)] s := by
    refine ⟨fun ci q hq => ?_, fun k q hk => ?_⟩
    · have hlt : ci < 9 := (List.getElem?_eq_some_iff.mp hq).1
      rw [(kindF ci hlt).1] at hq
      cases hq
      exact hD ci hlt
    · match k, hk with
      | 0, hk =>
        cases hk
        exact ⟨fun n z => ⟨fun k h => (by cases h), kI, f2, pI, f3⟩, f1⟩
      | 1, hk =>
        cases hk
        exact ⟨fun n z => ⟨fun k h => (by cases h), kB, g2, pB, g3⟩, g1⟩
      | k + 2, hk => cases hk
  have hNW : NW s := ⟨va_Nw.of rfl (hts0 _ (List.mem_of_getElem? (i := 120) (by decide +kernel))), va_Nw.of rfl (hts0 _ (List.mem_of_getElem? (i := 126) (by decide +kernel))), va_Nw.of rfl (hts0 _ (List.mem_of_getElem? (i := 175) (by decide +kernel))), va_Nw.of rfl (hts0 _ (List.mem_of_getElem? (i := 189) (by decide +kernel))), va_Nw.of rfl (hts0 _ (List.mem_of_getElem? (i := 208) (by decide +kernel))), va_Nw.of rfl (hts0 _ (List.mem_of_getElem? (i := 264) (by decide +kernel)))⟩
  have X : GX p s m #[Value.ref b] c code 4 RL D cI cB (fun q => s.heap.size ≤ q) := ⟨hx, hb, hml, hown, hts, hK, hNW, fun q h => h⟩
  have hbld : ∀ av : List Value, FrameBlind (va_Pc av (fun U => va_X b L xs U U.heap ∧ b < U.heap.size)) := fun av a U g mk q => ⟨q.1, va_X.moved (Vm.Alike.refl U.vm) q.2.1, q.2.2⟩
  have hpre : ∀ (H : Heap) (locs : List Loc), va_S (fun q => s.heap.size ≤ q) s.heap H locs → ∀ U : State, U.heap = H → s.WarmedH U.vm → va_X b L xs U U.heap ∧ b < U.heap.size := fun H locs hS U hU hW => by
    rw [hU]
    exact ⟨va_X.moved hW.alike (hX.kept (hS.2.1 b hbl (by omega))), Nat.lt_of_lt_of_le hbl hS.1⟩
  have hl0 := lv_entry ([.ref b]) (n := 4) (Nat.le_of_ble_eq_true rfl)
  rw [lg_entry_eq]
  generalize (lg_sl ([.ref b]) ++ List.replicate (4 - (lg_sl ([.ref b])).length) Slot.unset).toArray = ls at hl0 ⊢
  have hl0 : lv_has ls 4 [(0, .ref b)] := hl0
  have hP0 : va_P D vwCl [] s.heap := by
    intro k q hk
    simp at hk
  have hD0 : va_D (fun q => s.heap.size ≤ q) [] := by
    refine And.intro ?_ ?_
    · intro i j p q hi
      simp at hi
    · intro k q hk
      simp at hk
  suffices hG : GW p l e room_1 s m #[Value.ref b] below meth c 4 D (fun q => s.heap.size ≤ q) (lw_Z below #[Value.ref b] s) 0 [(0, .ref b)] [] [] 0 0 from hG s.heap [] ls hl0 hP0 hD0 va_S.rf
  generalize hx1 : (if 0 < L then xs 0 else 0) = x1
  generalize hx2 : (if 1 < L then xs 1 else 0) = x2
  generalize hx3 : (if 2 < L then xs 2 else 0) = x3
  have c1 := s_Lcell l b L xs hL 0 (by omega)
  have c2 := s_Lcell l b L xs hL 1 (by omega)
  have c3 := s_Lcell l b L xs hL 2 (by omega)
  rw [hx1] at c1
  rw [hx2] at c2
  rw [hx3] at c3
  refine gw_new X (ci := 7) (by decide) ⟨bigAt 66 (by decide +kernel) (by decide +kernel), inst_w 7 (by decide), nw_RX7⟩ (by decide +kernel : decode code 0 = .ok (.new 7, 3)) (Nat.le_of_ble_eq_true rfl) (Nat.le_of_ble_eq_true rfl) (fun q1 => ?_)
  refine gw_wide (c2 := 1) (s2 := 10) (Nat.le_of_ble_eq_true rfl) (Nat.le_of_ble_eq_true rfl) ?_
  refine gw_dup X (by decide +kernel : decode code 3 = .ok (.dup, 1)) ?_
  refine gw_al X (by decide +kernel : decode code 4 = .ok (.aload_n 0, 1)) rfl 0 rfl ?_
  refine gw_ic X (by decide +kernel : decode code 5 = .ok (.iconst 0, 1)) ?_
  refine gw_stat X (As := [.ref b, .int (Int32.ofInt ((0 : Nat) : Int))]) (rest := [.ref q1, .ref q1]) c1 (hbld _) hpre mlL_9 sw_yL_cell nw_RL cw_yL_cell ⟨by decide, by decide, by show _ = some 2; decide +kernel⟩ ⟨(Nat.le_of_ble_eq_true rfl), (Nat.le_of_ble_eq_true rfl)⟩ (Nat.le_of_ble_eq_true rfl) (by decide +kernel : decode code 6 = .ok (.invokestatic 9, 3)) (Nat.le_of_ble_eq_true rfl) (Nat.le_of_ble_eq_true rfl) ?_
  refine gw_al X (by decide +kernel : decode code 9 = .ok (.aload_n 0, 1)) rfl 0 rfl ?_
  refine gw_ic X (by decide +kernel : decode code 10 = .ok (.iconst 1, 1)) ?_
  refine gw_stat X (As := [.ref b, .int (Int32.ofInt ((1 : Nat) : Int))]) (rest := [.int x1, .ref q1, .ref q1]) c2 (hbld _) hpre mlL_9 sw_yL_cell nw_RL cw_yL_cell ⟨by decide, by decide, by show _ = some 2; decide +kernel⟩ ⟨(Nat.le_of_ble_eq_true rfl), (Nat.le_of_ble_eq_true rfl)⟩ (Nat.le_of_ble_eq_true rfl) (by decide +kernel : decode code 11 = .ok (.invokestatic 9, 3)) (Nat.le_of_ble_eq_true rfl) (Nat.le_of_ble_eq_true rfl) ?_
  refine gw_al X (by decide +kernel : decode code 14 = .ok (.aload_n 0, 1)) rfl 0 rfl ?_
  refine gw_ic X (by decide +kernel : decode code 15 = .ok (.iconst 2, 1)) ?_
  refine gw_stat X (As := [.ref b, .int (Int32.ofInt ((2 : Nat) : Int))]) (rest := [.int x2, .int x1, .ref q1, .ref q1]) c3 (hbld _) hpre mlL_9 sw_yL_cell nw_RL cw_yL_cell ⟨by decide, by decide, by show _ = some 2; decide +kernel⟩ ⟨(Nat.le_of_ble_eq_true rfl), (Nat.le_of_ble_eq_true rfl)⟩ (Nat.le_of_ble_eq_true rfl) (by decide +kernel : decode code 16 = .ok (.invokestatic 9, 3)) (Nat.le_of_ble_eq_true rfl) (Nat.le_of_ble_eq_true rfl) ?_
  refine gw_init X (As := [.int x1, .int x2, .int x3]) (rest := [.ref q1]) (c_X7init l D cI cB x1 x2 x3) mlL_15 iw_yX7_init nw_RX7 cw_yX7_init rfl ⟨by decide, by decide, by show _ = some 3; decide +kernel⟩ ⟨(Nat.le_of_ble_eq_true rfl), (Nat.le_of_ble_eq_true rfl)⟩ (Nat.le_of_ble_eq_true rfl) (by decide +kernel : decode code 19 = .ok (.invokespecial 15, 3)) (Nat.le_of_ble_eq_true rfl) (Nat.le_of_ble_eq_true rfl) (fun a1 => ?_)
  refine gw_wide (c2 := 50) (s2 := 6704) (Nat.le_of_ble_eq_true rfl) (Nat.le_of_ble_eq_true rfl) ?_
  refine gw_astn X (by decide +kernel : decode code 22 = .ok (.astore_n 1, 1)) rfl (by decide) rfl ?_
  refine gw_new X (ci := 8) (by decide) ⟨bigAt 791 (by decide +kernel) (by decide +kernel), inst_w 8 (by decide), nw_RX8⟩ (by decide +kernel : decode code 23 = .ok (.new 18, 3)) (Nat.le_of_ble_eq_true rfl) (Nat.le_of_ble_eq_true rfl) (fun q2 => ?_)
  refine gw_wide (c2 := 51) (s2 := 6733) (Nat.le_of_ble_eq_true rfl) (Nat.le_of_ble_eq_true rfl) ?_
  refine gw_dup X (by decide +kernel : decode code 26 = .ok (.dup, 1)) ?_
  refine gw_al X (by decide +kernel : decode code 27 = .ok (.aload_n 0, 1)) rfl 1 rfl ?_
  refine gw_ic X (by decide +kernel : decode code 28 = .ok (.iconst 0, 1)) ?_
  refine gw_stat X (As := [.ref b, .int (Int32.ofInt ((0 : Nat) : Int))]) (rest := [.ref q2, .ref q2]) c1 (hbld _) hpre mlL_9 sw_yL_cell nw_RL cw_yL_cell ⟨by decide, by decide, by show _ = some 2; decide +kernel⟩ ⟨(Nat.le_of_ble_eq_true rfl), (Nat.le_of_ble_eq_true rfl)⟩ (Nat.le_of_ble_eq_true rfl) (by decide +kernel : decode code 29 = .ok (.invokestatic 9, 3)) (Nat.le_of_ble_eq_true rfl) (Nat.le_of_ble_eq_true rfl) ?_
  refine gw_al X (by decide +kernel : decode code 32 = .ok (.aload_n 0, 1)) rfl 1 rfl ?_
  refine gw_ic X (by decide +kernel : decode code 33 = .ok (.iconst 1, 1)) ?_
  refine gw_stat X (As := [.ref b, .int (Int32.ofInt ((1 : Nat) : Int))]) (rest := [.int x1, .ref q2, .ref q2]) c2 (hbld _) hpre mlL_9 sw_yL_cell nw_RL cw_yL_cell ⟨by decide, by decide, by show _ = some 2; decide +kernel⟩ ⟨(Nat.le_of_ble_eq_true rfl), (Nat.le_of_ble_eq_true rfl)⟩ (Nat.le_of_ble_eq_true rfl) (by decide +kernel : decode code 34 = .ok (.invokestatic 9, 3)) (Nat.le_of_ble_eq_true rfl) (Nat.le_of_ble_eq_true rfl) ?_
  refine gw_al X (by decide +kernel : decode code 37 = .ok (.aload_n 0, 1)) rfl 1 rfl ?_
  refine gw_ic X (by decide +kernel : decode code 38 = .ok (.iconst 2, 1)) ?_
  refine gw_stat X (As := [.ref b, .int (Int32.ofInt ((2 : Nat) : Int))]) (rest := [.int x2, .int x1, .ref q2, .ref q2]) c3 (hbld _) hpre mlL_9 sw_yL_cell nw_RL cw_yL_cell ⟨by decide, by decide, by show _ = some 2; decide +kernel⟩ ⟨(Nat.le_of_ble_eq_true rfl), (Nat.le_of_ble_eq_true rfl)⟩ (Nat.le_of_ble_eq_true rfl) (by decide +kernel : decode code 39 = .ok (.invokestatic 9, 3)) (Nat.le_of_ble_eq_true rfl) (Nat.le_of_ble_eq_true rfl) ?_
  refine gw_init X (As := [.int x1, .int x2, .int x3]) (rest := [.ref q2]) (c_X8init l D cI cB x1 x2 x3) mlL_20 iw_yX8_init nw_RX8 cw_yX8_init rfl ⟨by decide, by decide, by show _ = some 3; decide +kernel⟩ ⟨(Nat.le_of_ble_eq_true rfl), (Nat.le_of_ble_eq_true rfl)⟩ (Nat.le_of_ble_eq_true rfl) (by decide +kernel : decode code 42 = .ok (.invokespecial 20, 3)) (Nat.le_of_ble_eq_true rfl) (Nat.le_of_ble_eq_true rfl) (fun a2 => ?_)
  refine gw_wide (c2 := 67) (s2 := 29868) (Nat.le_of_ble_eq_true rfl) (Nat.le_of_ble_eq_true rfl) ?_
  refine gw_astn X (by decide +kernel : decode code 45 = .ok (.astore_n 2, 1)) rfl (by decide) rfl ?_
  refine gw_ic X (by decide +kernel : decode code 46 = .ok (.iconst 3, 1)) ?_
  refine gw_istn X (by decide +kernel : decode code 47 = .ok (.istore_n 3, 1)) rfl (by decide) rfl ?_
  intro H locs ls1 hl hP hDD hS
  have hP : va_P D vwCl (w_X7 cI cB x1 x2 x3 q1 a1 ++ w_X8 cI cB x1 x2 x3 q2 a2) H := hP
  have hDD : va_D (fun q => s.heap.size ≤ q) (w_X7 cI cB x1 x2 x3 q1 a1 ++ w_X8 cI cB x1 x2 x3 q2 a2) := hDD
  rw [ws_eq] at hP hDD
  have hZ : ZOk (Z0 D cI cB x1 x2 x3 q1 a1 q2 a2 b s.heap.size) := Z0_ok hDD
  have hX2 : CX p s m #[Value.ref b] c code 4 RL (Jvm.Cond.initialized RL :: BIG) (Z0 D cI cB x1 x2 x3 q1 a1 q2 a2 b s.heap.size) := ⟨hx, hb, hml, hown, fun w hw => by
    rcases List.mem_cons.mp hw with rfl | hw
    · exact hts _ nw_RL
    · exact hts w hw, hK, hZ.1⟩
  have hSc : LSc s (Z0 D cI cB x1 x2 x3 q1 a1 q2 a2 b s.heap.size) b L xs := ⟨hX, hbl, fun h => Nat.not_le.mpr hbl h, rfl, hL⟩
  have hLH : LH (Z0 D cI cB x1 x2 x3 q1 a1 q2 a2 b s.heap.size) ls1 4 (LC 3) := by
    refine ⟨rfl, _, hl, fun j w hj => ?_⟩
    match j, hj with
    | 0, hj => cases hj; exact List.mem_of_getElem? (i := 3) rfl
    | 1, hj => cases hj; exact List.mem_of_getElem? (i := 2) rfl
    | 2, hj => cases hj; exact List.mem_of_getElem? (i := 1) rfl
    | 3, hj => cases hj; exact List.mem_of_getElem? (i := 0) rfl
    | j + 4, hj => cases hj
  have hn := nnT_ok (x1 := x1) (x2 := x2) (x3 := x3)
  refine W.widen (k := 600000) (n := 7302250) (Nat.le_of_ble_eq_true rfl) (Nat.le_of_ble_eq_true rfl) ?_
  exact lw_loop hX2 hSc hZ (fun q h => h) hr hlocks (L + 1) 3 (M0 (nnT x1 x2 x3)) (by omega) (by omega) (INV0 hn.1 hn.2.1 hn.2.2.1 hn.2.2.2.1 hn.2.2.2.2.2) H locs ls1 hLH (Z0_P hP) hS
set_option maxHeartbeats 4000000 in
theorem lw_walk (l : Launch) (b : Addr) (xs : List Int32) : MetFree l x (headSpec (Jvm.Cond.code x code maxLocals ret :: tables_1) room_1) (lw_P b xs) (fun _ _ _ _ _ => True) lw_Q := by
  refine MetFree.of_bodyS (code := code) (maxLocals := maxLocals) (ret := ret) (by decide) ?_ ?_
  · intro args s m h hn
    obtain ⟨meth, c, h1, h2, h3, h4, h5, h6, -, -⟩ := Cond.code_spec hn (atoms_spec (ws := Jvm.Cond.code x code maxLocals ret :: tables_1) h _ List.mem_cons_self)
    exact ⟨meth, c, h1, h2, h3, h4, h5, h6⟩
  · intro p e s m args below meth c s₁ B hml0 hP _
    obtain ⟨rfl, hx, hbd, hgv⟩ := hP
    obtain ⟨scr, harrAt, hlist, hof, hsmall⟩ := hx
    obtain ⟨hcb, hkn, -, -⟩ := State.arrayAt?_spec harrAt
    have hown : s.vm.findClass R_law = some m.cls := findClass_of_methodNamed B.named
    have hts0 : ∀ c ∈ (Jvm.Cond.code x code maxLocals ret :: tables_1), c.before #[Value.ref b] s = true := atoms_spec (ws := Jvm.Cond.code x code maxLocals ret :: tables_1) B.pre
    have hts : ∀ w ∈ lw_tbl, w.before #[Value.ref b] s = true := k2_hts_sels lw_privs (fun w hw => hts0 w (List.mem_cons_of_mem _ hw)) lw_privs_ok
    have hml : c.maxLocals = 4 := B.maxLocals_eq (hts0 _ List.mem_cons_self)
    have X₀ : Stand p l e room_1 s m #[Value.ref b] below meth c s₁ [] 0 0 := Stand.of_body B
    have hh0 : s₁.heap = s.heap := by rw [B.state]; rfl
    have hsz : scr.slots.size = xs.length := by rw [← Array.length_toList, hlist, List.length_map]
    have hval : ∀ j : Nat, j < xs.length → scr.slots[j]? = some (.int (xs.getD j 0)) := fun j hj => by
      rw [← Array.getElem?_toList, hlist]
      simp [hj]
    have hbl : b < s.heap.size := (Array.getElem?_eq_some_iff.mp hcb).1
    have hX : va_X b xs.length (fun j => xs.getD j 0) s s.heap := ⟨scr, hcb, hof, hkn, hsz, hval⟩
    have K : W p l e room_1 s m #[Value.ref b] below meth c s₁.heap [] 0 0 (lw_Z below #[Value.ref b] s) (entryFrame m ([Value.ref b] : List Value).toArray 4) := by
      rw [hh0]
      exact whole_start l hbd ⟨B.exec, B.bytes, B.returns, hml, hown, hts, hX, hbl, B.notSynchronized, hgv⟩
    obtain ⟨t, a1, o, b1, b2, b3⟩ := K s₁ rfl X₀
    exact ⟨t, o, a1, b1, b2, b3⟩
theorem lw_pre_spec {args : Array Value} {s : State} (h : (Jvm.Cond.and given_1 narrow_1).before args s = true) (hr : rest_1_c.before args s = true) : ∃ (b : Addr) (xs : List Int32), lw_P b xs args s := by
  have hs := flat_of_before _ h
  have hq := flat_of_before _ hr
  have hc : (Cond.count 1).before args s = true := hs _ (by decide +kernel)
  have harr : (Cond.arrayOf (.arg 0) .int).before args s = true := hs _ (by decide +kernel)
  have hle : (Cond.le (.length (.arg 0)) (.int 3075)).before args s = true := hs _ (by decide +kernel)
  have hlen : (Cond.isInt (.length (.arg 0))).before args s = true := hq _ (by decide +kernel)
  have hall : (Cond.all (.arg 0) (.isInt (.elem (.arg 0) (.index 0)))).before args s = true := hq _ (by decide +kernel)
  obtain ⟨b, xs, hb, hx⟩ := State.ints_of_pre rfl harr hlen hall
  have hsm : xs.length < 2 ^ 31 := hx.choose_spec.2.2.2
  have hev : (Term.length (.arg 0)).eval args s none [] s = some (.int xs.length.toInt32) := hx.length_eval hb
  have hv := Cond.le_ints hev (show (Term.int 3075).eval args s none [] s = some (.int 3075) from rfl)
  have hd : xs.length.toInt32 ≤ 3075 := by
    simpa [Cond.before, Cond.holds, hv] using hle
  have hN : xs.length ≤ 3075 := (Int32.ofNat_le_ofNat hsm (by decide)).mp (show Int32.ofNat xs.length ≤ Int32.ofNat 3075 from hd)
  exact ⟨b, xs, Cond.one_arg hc (show args[0]? = some (.ref b) from hb), hx, hN, h⟩
theorem lw_comes (l : Launch) : Comes l x (Jvm.Cond.code x code maxLocals ret :: tables_1) room_1 (fun tb e args s => Calls_1 tb e args s ∧ rest_1 tb e args s ∧ Pre_1 tb e args s)
    (fun _ _ args s o t => lw_Q args s o t) := by
  intro p e ha hc hk s m args below hf hfit hheap happ hpre
  obtain ⟨b, xs, hP⟩ := lw_pre_spec hpre.2.2 hpre.2.1
  obtain ⟨k, o, h1, h2, h3, hQ⟩ := lw_walk l b xs p e ha hc hk s m args below hf ((Spec.applies_iff_loose hf).mp happ).1 hP trivial
  exact ⟨k, o, h1, h2, h3, hQ⟩
theorem lw_frame {s t : State} {o : Outcome} {args : Array Value} (h : Framed s o t [] 600000 7302250) :
    Framed s o t (fieldLocs frame_1_writes args s ++ arrayLocs frame_1_arrays args s ++ staticLocs frame_1_statics s) 600000 7302250 := h
theorem lw_limb (L : Cond) (hL : ∀ (args : Array Value) (s t : State), L.after args s (.returned (some (.int 1))) t = true) :
    ArmFor flags0 classFile x code maxLocals ret World_1 tables_1 room_1 Calls_1 rest_1 Pre_1
      (fun tb e a s o t => postC L tb e a s o t ∧ Framed s o t (fieldLocs frame_1_writes a s ++ arrayLocs frame_1_arrays a s ++ staticLocs frame_1_statics s) 600000 7302250) := by
  intro l _ _ _ p e ha hc hk s m args below hf hfit hheap happ hpre
  obtain ⟨k, o, h1, h2, h3, rfl, hF⟩ := lw_comes l p e ha hc hk s m args below hf hfit hheap happ hpre
  exact ⟨k, _, h1, h2, h3, hL args s _, lw_frame hF⟩
theorem i_vc : Claimed_1_1 ∧ Claimed_1_2 := ⟨lw_limb limb_1_1 (fun args s t => by simp [limb_1_1, Cond.after, Cond.holds, Cond.value]), lw_limb limb_1_2 (fun args s t => Cond.after_iff.mpr (by
  first | (rw [show limb_1_2 = Cond.eq .result (.int 1) from rfl, Cond.eq_ints (x := 1) (y := 1) rfl rfl]; simp; done) | (simp [limb_1_2, Cond.value, Term.eval]; done)))⟩
