/-! ===== the reference: words of a certificate ===== -/
/-- one word more -/
def wr1 (M : Mem) (c : Nat) (w : Int) : Mem := up2 (if c < 4000 then up2 M 66 c w else M) 50 27 ((c + 1 : Nat) : Int)
def c_writes : Call := ⟨Nat × Int, 2, (fun (c, w) vs M => vs = [.inr (.inr 50), .inl w] ∧ M 50 27 = (c : Int) ∧ c < 100000), .inl (fun (c, w) _ M M' => M' = wr1 M c w)⟩
theorem v_writes (n : Nn) : Ver tX8_writes (fdX8, icX8, lcX8, []) 0 2 n c_writes := by
  rintro ⟨c, w⟩ vs M0 ⟨rfl, h1, h2⟩ aw run
  have l66 : lnF n 66 = 4000 := rfl
  change aw 0 [some (.inr (.inr 50)), some (.inl w)] [] M0
  refine run 40 [] _ _ _ _ ?_
  refine And.intro rfl ?_
  conv => whnf
  rw [h1]
  refine And.intro ⟨⟨by omega, by omega⟩, ⟨by omega, by omega⟩⟩ (And.intro (fun hge => ?_) (fun hlt => ?_))
  · refine And.intro rfl (And.intro rfl (Or.inl ?_))
    show up2 M0 50 27 (M0 50 27 + 1) = wr1 M0 c w
    unfold wr1
    rw [if_neg (by omega), h1]
    rfl
  · refine And.intro rfl (And.intro rfl (And.intro ⟨rfl, by omega, by omega⟩ (And.intro rfl (And.intro rfl (Or.inl ?_)))))
    show up2 (up2 M0 66 (M0 50 27).toNat w) 50 27 (up2 M0 66 (M0 50 27).toNat w 50 27 + 1) = wr1 M0 c w
    unfold wr1
    rw [if_pos (by omega), h1, Int.toNat_natCast, up2_i (by decide), h1]
    rfl
theorem imX8_writes {l : Launch} {Z : ZT} (hZ : ZOk Z) : Impl l Z yX8_writes cX8_writes 2 none 1 c_writes := mkImpl (rt := 0) (CL := []) hZ.1 hZ.2.1 (by decide +kernel) kX8_writes fwX8 iwX8 lwX8 trivial (Nat.le_of_ble_eq_true rfl) (fun q h => absurd h List.not_mem_nil) ((v_writes _))
theorem gX8_203 {l : Launch} {Z : ZT} (hZ : ZOk Z) {d : Nat} (hd : 2 ≤ d) : CallI l Z RX8 d (203, some 8, c_writes) := fun p e s m args below meth c Q cc nL x0 X => callOk_V X (imX8_writes hZ) (by decide) rfl mlX8_203 iw_yX8_writes vw_yX8_writes nw_RX8 cw_yX8_writes ⟨by decide +kernel, by decide +kernel, by decide +kernel⟩ ⟨hd, by decide⟩
/-- words one behind another -/
def wrs (M : Mem) (c : Nat) (ws : List Int) : Mem := match ws with
  | [] => M
  | w :: r => wrs (wr1 M c w) (c + 1) r
/-- a number below 2^30 as words -/
def numW (v : Nat) : List Int := if v < 32768 then [1, (v : Int)] else [2, ((v % 32768 : Nat) : Int), ((v / 32768 : Nat) : Int)]
theorem wr1_c (M : Mem) (c : Nat) (w : Int) : wr1 M c w 50 27 = ((c + 1 : Nat) : Int) := up2_s
def c_writesNumber : Call := ⟨Nat × Nat, 2, (fun (c, v) vs M => vs = [.inr (.inr 50), .inl (v : Int)] ∧ M 50 27 = (c : Int) ∧ c < 50000 ∧ v < 1073741824), .inl (fun (c, v) _ M M' => M' = wrs M c (numW v))⟩
theorem v_writesNumber (n : Nn) : Ver tX8_writesNumber (fdX8, icX8, lcX8, [(203, some 8, c_writes)]) 0 2 n c_writesNumber := by
  rintro ⟨c, v⟩ vs M0 ⟨rfl, h1, h2, h3⟩ aw run
  change aw 0 [some (.inr (.inr 50)), some (.inl (v : Int))] [] M0
  refine run 40 [] _ _ _ _ ?_
  refine And.intro ⟨⟨by omega, by omega⟩, ⟨by omega, by omega⟩⟩ (And.intro (fun hge => ?_) (fun hlt => ?_))
  · refine And.intro rfl ⟨(c, 2), ⟨rfl, h1, by omega⟩, ?_⟩
    rintro M1 rfl
    refine And.intro ⟨by omega, by omega, ⟨by omega, by omega⟩, ⟨by omega, by omega⟩⟩ (And.intro rfl ?_)
    refine ⟨(c + 1, (v : Int) % 32768), ⟨rfl, wr1_c _ _ _, by omega⟩, ?_⟩
    rintro M2 rfl
    refine And.intro ⟨⟨by omega, by omega⟩, ⟨by omega, by omega⟩⟩ (And.intro (fun q => absurd q (by omega)) (fun _ => ?_))
    refine And.intro ⟨by omega, by omega, ⟨by omega, by omega⟩, ⟨by omega, by omega⟩⟩ (And.intro rfl ?_)
    refine ⟨(c + 2, (v : Int) / 32768), ⟨rfl, wr1_c _ _ _, by omega⟩, ?_⟩
    rintro M3 rfl
    refine Or.inl ?_
    show wr1 (wr1 (wr1 M0 c 2) (c + 1) ((v : Int) % 32768)) (c + 2) ((v : Int) / 32768) = wrs M0 c (numW v)
    unfold numW
    rw [if_neg (by omega)]
    rfl
  · refine And.intro rfl ⟨(c, 1), ⟨rfl, h1, by omega⟩, ?_⟩
    rintro M1 rfl
    refine And.intro ⟨by omega, by omega, ⟨by omega, by omega⟩, ⟨by omega, by omega⟩⟩ (And.intro rfl ?_)
    refine ⟨(c + 1, (v : Int) % 32768), ⟨rfl, wr1_c _ _ _, by omega⟩, ?_⟩
    rintro M2 rfl
    refine And.intro ⟨⟨by omega, by omega⟩, ⟨by omega, by omega⟩⟩ (And.intro (fun _ => Or.inl ?_) (fun q => absurd q (by omega)))
    show wr1 (wr1 M0 c 1) (c + 1) ((v : Int) % 32768) = wrs M0 c (numW v)
    unfold numW
    rw [if_pos (by omega), show (v : Int) % 32768 = (v : Int) by omega]
    rfl
theorem imX8_writesNumber {l : Launch} {Z : ZT} (hZ : ZOk Z) : Impl l Z yX8_writesNumber cX8_writesNumber 2 none 2 c_writesNumber := mkImpl (rt := 0) (CL := [(203, some 8, c_writes)]) hZ.1 hZ.2.1 (by decide +kernel) kX8_writesNumber fwX8 iwX8 lwX8 trivial (Nat.le_of_ble_eq_true rfl) (List.forall_mem_cons.mpr ⟨gX8_203 hZ (by decide), fun q h => absurd h List.not_mem_nil⟩) ((v_writesNumber _))
theorem gX8_214 {l : Launch} {Z : ZT} (hZ : ZOk Z) {d : Nat} (hd : 3 ≤ d) : CallI l Z RX8 d (214, some 8, c_writesNumber) := fun p e s m args below meth c Q cc nL x0 X => callOk_V X (imX8_writesNumber hZ) (by decide) rfl mlX8_214 iw_yX8_writesNumber vw_yX8_writesNumber nw_RX8 cw_yX8_writesNumber ⟨by decide +kernel, by decide +kernel, by decide +kernel⟩ ⟨hd, by decide⟩
