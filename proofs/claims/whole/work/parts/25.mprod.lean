/-! ===== products, column by column ===== -/
/-- the first m terms of column k -/
def cs (a b k m : Nat) : Nat := match m with
  | 0 => 0
  | m + 1 => cs a b k m + dg a m * dg b (k - m)
/-- the first K columns -/
def sS (a b K : Nat) : Nat := match K with
  | 0 => 0
  | K + 1 => sS a b K + cs a b K (K + 1) * 32768 ^ K
def cyP (a b K : Nat) : Nat := sS a b K / 32768 ^ K
theorem dg_div (a i : Nat) : dg (a / 32768) i = dg a (i + 1) := by
  unfold dg
  rw [Nat.div_div_eq_div_mul, nn_succ, Nat.mul_comm]
theorem cs_shift (a b k m : Nat) : cs a b (k + 1) (m + 1) = dg a 0 * dg b (k + 1) + cs (a / 32768) b k m := by
  induction m with
  | zero => simp [cs]
  | succ m ih =>
    rw [cs, ih, cs, dg_div, Nat.succ_sub_succ]
    omega
theorem sS_rec (a b K : Nat) : sS a b (K + 1) = dg a 0 * (b % 32768 ^ (K + 1)) + 32768 * sS (a / 32768) b K := by
  induction K with
  | zero => simp [sS, cs, dg]
  | succ K ih =>
    rw [sS, ih, cs_shift, md_s b (K + 1), sS, nn_succ]
    generalize cs (a / 32768) b K (K + 1) = x
    generalize sS (a / 32768) b K = y
    generalize dg a 0 = z
    generalize dg b (K + 1) = u
    generalize b % (32768 ^ K * 32768) = t
    generalize 32768 ^ K = q
    grind
theorem sS_mod (b K : Nat) : ∀ a : Nat, sS a b K % 32768 ^ K = (a * b) % 32768 ^ K := by
  induction K with
  | zero => intro a; simp [Nat.mod_one]
  | succ K ih =>
    intro a
    have ha : a = 32768 * (a / 32768) + dg a 0 := by unfold dg; simp; omega
    have e1 : (32768 * sS (a / 32768) b K) % 32768 ^ (K + 1) = (32768 * (a / 32768 * b)) % 32768 ^ (K + 1) := by
      rw [nn_succ, Nat.mul_comm (32768 ^ K), Nat.mul_mod_mul_left, Nat.mul_mod_mul_left, ih]
    have e2 : (dg a 0 * (b % 32768 ^ (K + 1))) % 32768 ^ (K + 1) = (dg a 0 * b) % 32768 ^ (K + 1) := by
      rw [Nat.mul_mod, Nat.mod_mod, ← Nat.mul_mod]
    rw [sS_rec, Nat.add_mod, e1, e2, ← Nat.add_mod]
    congr 1
    have : a * b = (32768 * (a / 32768) + dg a 0) * b := by rw [← ha]
    rw [this, Nat.add_mul, Nat.mul_assoc]
    omega
theorem cyP_t (a b K : Nat) : cyP a b K + cs a b K (K + 1) = sS a b (K + 1) / 32768 ^ K := by
  unfold cyP
  rw [sS, Nat.add_mul_div_right _ _ (nn_pos K)]
theorem cyP_d (a b K : Nat) : (cyP a b K + cs a b K (K + 1)) % 32768 = dg (a * b) K := by
  rw [cyP_t, md_dv, sS_mod]
  unfold dg
  rw [md_dv]
theorem cyP_s (a b K : Nat) : (cyP a b K + cs a b K (K + 1)) / 32768 = cyP a b (K + 1) := by
  rw [cyP_t, Nat.div_div_eq_div_mul, ← nn_succ]
  rfl
theorem cyP_0 (a b : Nat) : cyP a b 0 = 0 := by simp [cyP, sS]
theorem cs_le (a b k m : Nat) : cs a b k m ≤ m * 1073676289 := by
  induction m with
  | zero => simp [cs]
  | succ m ih =>
    rw [cs]
    have h1 := dg_lt a m
    have h2 := dg_lt b (k - m)
    have := Nat.mul_le_mul (show dg a m ≤ 32767 by omega) (show dg b (k - m) ≤ 32767 by omega)
    omega
theorem cyP_le (a b K : Nat) (h : K ≤ 400) : cyP a b K ≤ 13107200 := by
  induction K with
  | zero => rw [cyP_0]; omega
  | succ K ih =>
    rw [← cyP_s]
    have := cs_le a b K (K + 1)
    have := ih (by omega)
    omega
theorem cs_low {a b k m : Nat} (h : ∀ j, j < m → dg b (k - j) = 0) : cs a b k m = 0 := by
  induction m with
  | zero => rfl
  | succ m ih => rw [cs, ih (fun j hj => h j (by omega)), h m (by omega)]; simp
theorem cs_up {a b k m : Nat} (h : nd a ≤ m) : ∀ j, cs a b k (m + j) = cs a b k m := by
  intro j
  induction j with
  | zero => rfl
  | succ j ih => rw [← Nat.add_assoc, cs, ih, dg_z (by omega)]; simp
theorem nd_mul (a b : Nat) : a * b < 32768 ^ (nd a + nd b) := by
  rw [Nat.pow_add]
  exact Nat.mul_lt_mul'' (nd_lt a) (nd_lt b)
/-- product(a, b, d) -/
def c_product : Call := ⟨Nat × Nat × Nat × Nat × Nat, 4, (fun (a, b, d, v, w) vs M => vs = [.inr (.inr 50), .inl (a : Int), .inl (b : Int), .inl (d : Int)] ∧ a < 37 ∧ b < 37 ∧ d < 37 ∧ a ≠ d ∧ b ≠ d ∧ MH M a v ∧ MH M b w ∧ nd v + nd w ≤ 400), .inl (fun (_, _, d, v, w) _ M M' => MH M' d (v * w) ∧ FrM M M' d)⟩
theorem v_product (n : Nn) : Ver tX8_product (fdX8, icX8, lcX8, [(76, some 8, c_at), (80, some 8, c_put), (85, some 8, c_fix)]) 0 10 n c_product := by
  rintro ⟨a, b, d, v, w⟩ vs M0 ⟨rfl, ha, hb, hd, had, hbd, hv, hw, hn⟩ aw run
  have hl : lnF n 52 = 37 := rfl
  have loop : ∀ (r k : Nat) (M : Mem) (o8 o9 : Option AV), k + r = nd v + nd w → MH M a v → MH M b w → FrM M0 M d → (∀ j, j < k → M 51 (420 * d + j) = (dg (v * w) j : Int)) → aw 21 [some (.inr (.inr 50)), some (.inl (a : Int)), some (.inl (b : Int)), some (.inl (d : Int)), some (.inl ((nd v : Int) + (nd w : Int))), some (.inr (.inl (cyP v w k : Int))), none, some (.inl (k : Int)), o8, o9] [] M := by
    intro r
    induction r with
    | zero =>
      intro k M o8 o9 hk hA hB hF hD
      obtain rfl : k = nd v + nd w := by omega
      refine run 60 [21, 63] _ _ _ _ ?_
      repeat' first | intro h | refine And.intro ?_ ?_
      all_goals first | omega | rfl | trivial | skip
      refine ⟨(d, nd v + nd w, v * w), ⟨rfl, hd, by omega, nd_mul v w, hD⟩, ?_⟩
      rintro M2 rfl
      exact Or.inl (And.intro (MH_fix hD (nd_mul v w)) (hF.tr FrM.len))
    | succ r ih =>
      intro k M o8 o9 hk hA hB hF hD
      have hA1 := hA.1
      have hB1 := hB.1
      have hcy := cyP_le v w k (by omega)
      have fin : ∀ (o8 o9 : Option AV), aw 112 [some (.inr (.inr 50)), some (.inl (a : Int)), some (.inl (b : Int)), some (.inl (d : Int)), some (.inl ((nd v : Int) + (nd w : Int))), some (.inr (.inl ((cyP v w k + cs v w k (k + 1) : Nat) : Int))), none, some (.inl (k : Int)), o8, o9] [] M := by
        intro o8 o9
        have hcs := cs_le v w k (k + 1)
        have e1 : (((cyP v w k + cs v w k (k + 1) : Nat) : Int)) % 32768 = (dg (v * w) k : Int) := by rw [← cyP_d]; omega
        have e2 : (((cyP v w k + cs v w k (k + 1) : Nat) : Int)) / 32768 = (cyP v w (k + 1) : Int) := by rw [← cyP_s]; omega
        refine run 60 [21, 63] _ _ _ _ ?_
        refine And.intro ⟨by omega, by omega, ⟨by omega, by omega⟩, ⟨by omega, by omega⟩⟩ (And.intro rfl ?_)
        rw [e1]
        refine ⟨(d, k, (dg (v * w) k : Int)), ⟨rfl, by omega⟩, ?_⟩
        rintro M3 rfl
        refine And.intro ⟨by omega, by omega, ⟨by omega, by omega⟩, ⟨by omega, by omega⟩⟩ (And.intro ?_ trivial)
        rw [e2, show ((k : Int) + 1) = ((k + 1 : Nat) : Int) by omega]
        refine ih (k + 1) _ _ _ (by omega) ((FrM.put (by omega)).keep had hA (by omega)) ((FrM.put (by omega)).keep hbd hB (by omega)) (hF.tr (FrM.put (by omega))) ?_
        intro j hj
        by_cases hj2 : j = k
        · rw [hj2, up2_s]
        · rw [up2_k (by omega)]
          exact hD j (by omega)
      have inner : ∀ (q i : Nat) (o8 : Int), i + q = k + 1 → aw 63 [some (.inr (.inr 50)), some (.inl (a : Int)), some (.inl (b : Int)), some (.inl (d : Int)), some (.inl ((nd v : Int) + (nd w : Int))), some (.inr (.inl ((cyP v w k + cs v w k i : Nat) : Int))), none, some (.inl (k : Int)), some (.inl o8), some (.inl (i : Int))] [] M := by
        intro q
        induction q with
        | zero =>
          intro i o8 hq
          obtain rfl : i = k + 1 := by omega
          refine run 60 [21, 63, 112] _ _ _ _ ?_
          repeat' first | intro h | refine And.intro ?_ ?_
          all_goals first | omega | rfl | trivial | skip
          exact fin _ _
        | succ q ihq =>
          intro i o8 hq
          have c1 := cs_le v w k i
          have g1 := dg_lt v i
          have g2 := dg_lt w (k - i)
          refine run 60 [21, 63, 112] _ _ _ _ ?_
          repeat' first | intro h | refine And.intro ?_ ?_
          all_goals try simp only [Int.toNat_natCast] at *
          all_goals first | omega | rfl | trivial | skip
          · have e : cs v w k i = cs v w k (k + 1) := by
              have := cs_up (a := v) (b := w) (k := k) (m := i) (by omega) (k + 1 - i)
              rw [← this]
              congr 1
              omega
            rw [e]
            exact fin _ _
          · refine ⟨(a, (i : Int), v), ⟨rfl, ha, ⟨by omega, by omega⟩, hA, by omega⟩, ?_⟩
            rintro x M1 ⟨rfl, rfl⟩
            rw [dgZ_n]
            refine And.intro ⟨by omega, by omega⟩ (And.intro rfl ?_)
            have ek : (k : Int) - (i : Int) = ((k - i : Nat) : Int) := by omega
            rw [ek]
            refine ⟨(b, ((k - i : Nat) : Int), w), ⟨rfl, hb, ⟨by omega, by omega⟩, hB, by omega⟩, ?_⟩
            rintro y M2 ⟨rfl, rfl⟩
            rw [dgZ_n]
            refine And.intro ⟨by omega, by omega⟩ (And.intro ?_ trivial)
            have := ihq (i + 1) o8 (by omega)
            rw [cs] at this
            have e3 : ((cyP v w k + cs v w k i : Nat) : Int) + (dg v i : Int) * (dg w (k - i) : Int) = ((cyP v w k + (cs v w k i + dg v i * dg w (k - i)) : Nat) : Int) := by
              rw [Int.natCast_add, Int.natCast_add, Int.natCast_add, Int.natCast_mul]
              omega
            rw [e3, show ((i : Int) + 1) = ((i + 1 : Nat) : Int) by omega]
            exact this
      refine run 60 [21, 63] _ _ _ _ ?_
      repeat' first | intro h | refine And.intro ?_ ?_
      all_goals try simp only [Int.toNat_natCast] at *
      all_goals first | omega | rfl | trivial | skip
      · have e := cs_low (a := v) (b := w) (k := k) (m := 0) (fun j hj => by omega)
        have := inner (k + 1) 0 0 (by omega)
        rw [e] at this
        exact this
      · have e := cs_low (a := v) (b := w) (k := k) (m := k + 1 - nd w) (fun j hj => dg_z (by omega))
        have := inner (nd w) (k + 1 - nd w) ((k : Int) - M 52 b + 1) (by omega)
        rw [e, show ((k + 1 - nd w : Nat) : Int) = (k : Int) - M 52 b + 1 by omega] at this
        exact this
  change aw 0 [some (.inr (.inr 50)), some (.inl (a : Int)), some (.inl (b : Int)), some (.inl (d : Int)), none, none, none, none, none, none] [] M0
  have h1 := hv.1
  have h2 := hw.1
  refine run 40 [21] _ _ _ _ ?_
  repeat' first | intro h | refine And.intro ?_ ?_
  all_goals try simp only [Int.toNat_natCast] at *
  all_goals first | omega | rfl | trivial | skip
  rw [h1, h2]
  have := loop (nd v + nd w) 0 M0 none none (by omega) hv hw (FrM.rf _ _) (fun j hj => by omega)
  rw [cyP_0] at this
  exact this
theorem imX8_product {l : Launch} {Z : ZT} (hZ : ZOk Z) : Impl l Z yX8_product cX8_product 10 none 2 c_product := mkImpl (rt := 0) (CL := [(76, some 8, c_at), (80, some 8, c_put), (85, some 8, c_fix)]) hZ.1 hZ.2.1 (by decide +kernel) kX8_product fwX8 iwX8 lwX8 trivial (Nat.le_of_ble_eq_true rfl) (List.forall_mem_cons.mpr ⟨gX8_76 hZ (by decide), List.forall_mem_cons.mpr ⟨gX8_80 hZ (by decide), List.forall_mem_cons.mpr ⟨gX8_85 hZ (by decide), fun q h => absurd h List.not_mem_nil⟩⟩⟩) ((v_product _))
theorem gX8_108 {l : Launch} {Z : ZT} (hZ : ZOk Z) {d : Nat} (hd : 3 ≤ d) : CallI l Z RX8 d (108, some 8, c_product) := fun p e s m args below meth c Q cc nL x0 X => callOk_V X (imX8_product hZ) (by decide) rfl mlX8_108 iw_yX8_product vw_yX8_product nw_RX8 cw_yX8_product ⟨by decide +kernel, by decide +kernel, by decide +kernel⟩ ⟨hd, by decide⟩
