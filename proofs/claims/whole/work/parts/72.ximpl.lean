/-! ===== methods of the library ===== -/
theorem ofWF {l : Launch} {y : MethodName} {ws ws' : List Cond} {rm : Room} {Pc : Array Value → State → Prop} {Qc : Array Value → State → Outcome → State → Prop} {mc ms : Nat} {free : Addr → Prop} {cc : ByteArray} {maxL : Nat} {ret : Option FieldType}
    (hy : plainFor y = true) (hw : ws = Cond.code y cc maxL ret :: ws')
    (body : ∀ p e s m args below meth c s₁, BodyLoose p l y (headSpec ws rm) cc maxL ret e s m args below meth c s₁ → c.maxLocals = maxL → Pc args s →
      W p l e (headSpec ws rm).room s m args below meth c s.heap [] 0 0 (MQ below Qc args s mc ms free) (entryFrame m args maxL)) : Met l y ws rm Pc Qc mc ms free := by
  refine MetFree.of_bodySF (code := cc) (maxLocals := maxL) (ret := ret) hy (fun args s m h hn => ?_) (fun p e s m args below meth c s₁ B hml hP _ => ?_)
  · obtain ⟨meth, c, h1, h2, h3, h4, h5, h6, -, -⟩ := Cond.code_spec hn (atoms_spec (ws := ws) h _ (by rw [hw]; exact List.mem_cons_self))
    exact ⟨meth, c, h1, h2, h3, h4, h5, h6⟩
  · have hh : s₁.heap = s.heap := by rw [B.state]; rfl
    obtain ⟨t, a1, o, b1, b2, b3⟩ := body p e s m args below meth c s₁ B hml hP s₁ hh (Stand.of_body B)
    exact ⟨t, o, a1, b1, b2, ⟨b3.1, b3.2⟩⟩
set_option maxHeartbeats 2000000 in
/-- the same for a method of the library that the machine has no row of its own for -/
theorem mkImplF {l : Launch} {Z : ZT} {y : MethodName} {cc : ByteArray} {nL N rt d : Nat} {ret : Option FieldType} {k : Call} {t : Tt} {F : List (Nat × Nat × Nat × Nat × Nat)} {I J : List (Nat × Int)} {CL : List (Nat × Option Nat × Call)} (hZ : adOk Z) (hln : ∀ a, lnF (zN Z) a < 2147483648) (hy : plainFor y = true) (hT : okT cc (tWn N t) N nL = true) (hF : FdW y.cls F) (hI : IcW y.cls I) (hJ : LcW y.cls J) (hrt : rtOk ret rt k) (hn : k.2.1 ≤ nL)
    (hC : ∀ q ∈ CL, CallI l Z y.cls d q) (hV : Ver (tWn N t) (F, I, J, CL) rt nL (zN Z) k) : Impl l Z y cc nL ret d k := by
  intro g vs M0 hlen hnl hpre
  refine ofWF (cc := cc) (maxL := nL) (ret := ret) hy rfl ?_
  intro p e s m args below meth c s₁ B hml hv
  obtain ⟨rfl, hP, hK⟩ := hv
  have hts := atoms_spec (ws := WSy y cc nL ret) B.pre
  have hown : s.vm.findClass y.cls = some m.cls := findClass_of_methodNamed B.named
  have X : CX p s m ((vs.map (cvF Z)).toArray) c cc nL y.cls (WSy y cc nL ret) Z := ⟨B.exec, B.bytes, hml, hown, hts, hK, hZ⟩
  have hPW : PoolW y.cls (WSy y cc nL ret) (F, I, J, CL) := ⟨fun w h => List.mem_cons_of_mem _ h, fun q hq => ⟨(hF q hq).1, (hF q hq).2.1, List.mem_cons_of_mem _ (hF q hq).2.2.1, (hF q hq).2.2.2⟩, fun q hq => List.mem_cons_of_mem _ (hI q hq), fun q hq => List.mem_cons_of_mem _ (hJ q hq)⟩
  have key := hV g vs M0 hpre (AW p l e (rmd d) s m ((vs.map (cvF Z)).toArray) below meth c nL Z (MQ below (Qcall Z k g vs M0) ((vs.map (cvF Z)).toArray) s 0 0 (zB Z)))
    (fun n stops pc lc st M h => s_run_sound X B.returns B.notSynchronized hrt hT hPW hln (fun q hq => hC q hq p e s m _ below meth c _ cc nL _ X) stops n pc lc st M h)
  have hll := lg_sl_len Z vs hnl
  rw [lg_entry_eq]
  refine key s.heap [] _ ⟨?_, lv_args 0 (vs.map (cvF Z)), lv_entry _ (by rw [hll, hlen]; exact hn), ?_⟩ hP va_S.rf
  · simp [entL]; omega
  · intro j w hj
    unfold entL at hj
    by_cases hjl : j < vs.length
    · rw [List.getElem?_append_left (by simpa using hjl), List.getElem?_map] at hj
      cases hq : vs[j]? with
      | none => rw [hq] at hj; cases hj
      | some w' =>
        rw [hq] at hj
        cases hj
        have := lv_args_mem Z vs 0 j w hnl hq
        rwa [Nat.zero_add] at this
    · rw [List.getElem?_append_right (by simpa using hjl), List.getElem?_replicate] at hj
      split at hj <;> cases hj
