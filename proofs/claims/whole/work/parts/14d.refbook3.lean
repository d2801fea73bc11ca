/-! The reference: the trading loop, a transaction carried out. -/
theorem zl_cross0 (L : zq_Q) (ac o : Nat) : zl_cross L ac o 0 = L := by
  have h1 : ∀ b : Nat, zl_c1 L b 0 0 = L := by
    intro b; unfold zl_c1
    simp only [Nat.sub_zero, Nat.add_zero, u2_id]
  have h2 : ∀ b : Nat, zl_c2 L b 0 0 = L := by
    intro b; unfold zl_c2
    simp only [Nat.sub_zero, Nat.add_zero, u2_id]
  unfold zl_cross
  rw [Nat.zero_mul, h1, h2, Nat.sub_zero, u2_id]
section RD
variable {S : Nat → Nat → Nat} {v : Nat} {d : za_h} {m : Nat}
theorem zb_trade205 (hv : v < 5) {L : zq_Q} (hB : zl_B L) {k kd ac wh ot am left : Nat} (ht : zb_tx S k kd ac wh ot am) (hl : left ≤ 1000) : zf_Mo_trade_205 m (nI v) (nI k) (nI left) (zr d m (zv S v L)) = some ((), zr d m (zv S v (zl_push L ac wh ot left))) := by
  have h8 := hB.2.2.1
  unfold zf_Mo_trade_205 zf_Mo_trade_290 zl_push
  by_cases h1 : left = 0
  · rw [if_pos ((zn_le0 (by omega)).mpr h1), if_neg (by omega)]
  · rw [if_neg (fun h => h1 ((zn_le0 (by omega)).mp h))]
    simp only [zr_g27, Option.bind_some, zb_r27 hv]
    by_cases h2 : 8 ≤ L 5 0
    · rw [if_pos (nI_le h2 (by omega)), if_neg (by omega)]
    · rw [if_neg (nI_ge (by omega) (by omega)), if_pos (by omega)]
      have h9 : L 5 0 < 9 := by omega
      obtain ⟨-, t2, t3, t4, -⟩ := zb_rt (d := d) (m := m) (v := v) (L := L) ht
      have t3' := fun M : zq_Q => (zb_rt (d := d) (m := m) (v := v) (L := M) ht).2.2.1
      have t4' := fun M : zq_Q => (zb_rt (d := d) (m := m) (v := v) (L := M) ht).2.2.2.1
      simp only [zr_g28, zr_g22, zr_g29, zr_g23, zr_g30, zr_g24, zr_g31, zr_g27, Option.bind_some, t2, t3', t4', pk_mul, nI_add, zb_w28 hv h9, zb_w29 hv h9, zb_w30 hv h9, zb_w31 hv h9, zb_r27 hv, zb_w27 hv, u2_k (show (5 : Nat) ≠ 4 by decide), u2_k (show (5 : Nat) ≠ 3 by decide), u2_k (show (5 : Nat) ≠ 2 by decide), u2_k (show (5 : Nat) ≠ 1 by decide)]
theorem zb_stop {n k : Nat} {x3 x5 : Int32} {σ : za_h} : zf_Mo_trade_13 (n + 1) m (nI v) (nI k) x3 (nI 0) x5 σ = zf_Mo_trade_205 m (nI v) (nI k) x3 σ := by
  rw [zf_Mo_trade_13]
  by_cases h : nI 1100 ≤ x5
  · rw [if_pos h]
  · rw [if_neg h, if_pos (by decide)]
theorem zb_trade13 (hv : v < 5) {k kd ac wh ot am : Nat} (ht : zb_tx S k kd ac wh ot am) (hk1 : 1 ≤ ot ∧ ot ≤ 9) : ∀ (f left turn fuel : Nat) (L : zq_Q), turn + f = 1100 → f < fuel → zl_B L → left ≤ 1000 →
    zf_Mo_trade_13 fuel m (nI v) (nI k) (nI left) (nI 1) (nI turn) (zr d m (zv S v L)) = zf_Mo_trade_205 m (nI v) (nI k) (nI (zl_trade ac wh ot f left L).1) (zr d m (zv S v (zl_trade ac wh ot f left L).2)) := by
  have hac : ac < 4 := ht.2.2.2.2.2.2.2.1
  have hwh : wh < 2 := ht.2.2.2.2.2.2.2.2.1
  intro f
  induction f with
  | zero =>
    intro left turn fuel L h1 h2 hB hl
    obtain ⟨fuel, rfl⟩ : ∃ g, fuel = g + 1 := ⟨fuel - 1, by omega⟩
    obtain rfl : turn = 1100 := by omega
    rw [zf_Mo_trade_13, if_pos (Int32.le_refl _)]
    rfl
  | succ f ih =>
    intro left turn fuel L h1 h2 hB hl
    obtain ⟨fuel, rfl⟩ : ∃ g, fuel = g + 1 := ⟨fuel - 1, by omega⟩
    obtain ⟨-, -, t3, t4, -⟩ := zb_rt (d := d) (m := m) (v := v) (L := L) ht
    have h8 := hB.2.2.1
    have h54 : zf_Mo_trade_54 (zf_Mo_trade_13 fuel) m (nI v) (nI k) (nI left) (nI turn) (zr d m (zv S v L)) = zf_Mo_trade_205 m (nI v) (nI k) (nI left) (zr d m (zv S v L)) := by
      unfold zf_Mo_trade_54 zf_Mo_trade_199
      obtain ⟨g, rfl⟩ : ∃ g, fuel = g + 1 := ⟨fuel - 1, by omega⟩
      exact zb_stop
    rw [zf_Mo_trade_13, if_neg (nI_ge (by omega) (by omega)), if_neg (by decide), zl_trade_s]
    simp only [zr_g23, zr_g24, zr_gc, Option.bind_some, t3, t4, zb_best hv hB hwh (show ot < 2 ^ 30 by omega)]
    cases hbest : zl_best L wh ot (L 5 0) 0 none with
    | none =>
      show (if nI left = 0 then _ else if 0 ≤ (-1 : Int32) then _ else _) = _
      rw [if_neg (show ¬ (0 : Int32) ≤ -1 by decide), h54]
      by_cases hz : nI left = 0
      · rw [if_pos hz]
      · rw [if_neg hz]
    | some o =>
      have ho : o < L 5 0 := (zl_best_lt (L 5 0) 0 none (L 5 0) (by omega) (fun g hg => by cases hg) o hbest).1
      obtain ⟨o1, o2, o3, o4, o5, o6⟩ := hB.2.2.2 o ho
      show (if nI left = 0 then _ else if 0 ≤ nI (9 * v + o) then _ else _) = _
      rw [h54]
      by_cases hz : left = 0
      · rw [if_pos ((zn_eq0 (by omega)).mpr hz)]
        simp only [hz, if_true]
      · rw [if_neg (fun h => hz ((zn_eq0 (by omega)).mp h)), if_pos (zn_0le (by omega))]
        simp only [if_neg hz]
        obtain ⟨n1, n2, n3, n4⟩ := zl_n_le L ac o left
        have hcr := zb_cross (d := d) (m := m) hv hB ht ho hl
        have ezo : zb_oi v (some o) = nI (9 * v + o) := rfl
        simp only [ezo, zr_gc, Option.bind_some, hcr]
        generalize hn : zl_n L ac o left = n at n1 n2 n3 n4 hcr ⊢
        generalize hL1 : zl_cross L ac o n = L1
        have r1 : L1 1 o = L 1 o := by rw [← hL1]; unfold zl_cross; rw [u2_k (by decide), zl_c_row (by decide)]
        have r2 : L1 2 o = L 2 o := by rw [← hL1]; unfold zl_cross; rw [u2_k (by decide), zl_c_row (by decide)]
        have r3 : L1 3 o = L 3 o := by rw [← hL1]; unfold zl_cross; rw [u2_k (by decide), zl_c_row (by decide)]
        have r4 : L1 4 o = L 4 o - n := by rw [← hL1]; unfold zl_cross; rw [u2_s]
        have r5 : L1 5 0 = L 5 0 := by rw [← hL1]; unfold zl_cross; rw [u2_k (by decide), zl_c_row (by decide)]
        have h199 : ∀ (M : zq_Q) (lf : Nat), zl_B M → lf ≤ 1000 → zf_Mo_trade_199 (zf_Mo_trade_13 fuel) m (nI v) (nI k) (nI lf) (nI 1) (nI turn) (zr d m (zv S v M)) = zf_Mo_trade_205 m (nI v) (nI k) (nI (zl_trade ac wh ot f lf M).1) (zr d m (zv S v (zl_trade ac wh ot f lf M).2)) := by
          intro M lf hM hlf
          unfold zf_Mo_trade_199
          rw [nI_add]
          exact ih lf (turn + 1) fuel M (by omega) (by omega) hM hlf
        have h192 : ∀ lf : Nat, zl_B (zl_rem L1 o) → lf ≤ 1000 → zf_Mo_trade_192 (zf_Mo_trade_13 fuel) m (nI v) (nI k) (nI lf) (nI 1) (nI turn) (nI (9 * v + o)) (zr d m (zv S v L1)) = zf_Mo_trade_205 m (nI v) (nI k) (nI (zl_trade ac wh ot f lf (zl_rem L1 o)).1) (zr d m (zv S v (zl_trade ac wh ot f lf (zl_rem L1 o)).2)) := by
          intro lf hM hlf
          unfold zf_Mo_trade_192
          simp only [zr_gc, Option.bind_some, zb_remove hv (L := L1) (show L1 5 0 ≤ 8 by omega) (show o < L1 5 0 by omega)]
          exact h199 _ lf hM hlf
        have h153 : ∀ p : Bool, (n = 0 → p = zl_poor L o) → zf_Mo_trade_153 (zf_Mo_trade_13 fuel) m (nI v) (nI k) (nI (left - n)) (nI turn) (nI (9 * v + o)) (nI n) (nI p.toNat) (zr d m (zv S v L1)) = zf_Mo_trade_205 m (nI v) (nI k) (nI (if 0 < n then (if L 4 o - n = 0 then zl_trade ac wh ot f (left - n) (zl_rem L1 o) else zl_trade ac wh ot f (left - n) L1) else if zl_poor L o then zl_trade ac wh ot f left (zl_rem L o) else (left, L)).1) (zr d m (zv S v (if 0 < n then (if L 4 o - n = 0 then zl_trade ac wh ot f (left - n) (zl_rem L1 o) else zl_trade ac wh ot f (left - n) L1) else if zl_poor L o then zl_trade ac wh ot f left (zl_rem L o) else (left, L)).2)) := by
          intro p hp
          unfold zf_Mo_trade_153 zf_Mo_trade_165 zf_Mo_trade_170
          simp only [zr_g31, Option.bind_some, zb_r31 hv (show o < 9 by omega), r4, zn_eq0 (show L 4 o - n < 2 ^ 31 by omega), zn_0lt (show n < 2 ^ 31 by omega), zn_eq0 (show n < 2 ^ 31 by omega)]
          by_cases hn0 : 0 < n
          · simp only [if_pos hn0, if_neg (show ¬ n = 0 by omega)]
            by_cases ha : L 4 o - n = 0
            · simp only [if_pos ha]
              exact h192 (left - n) (by rw [← hL1, ← hn]; exact zl_crossrem_B hB hac ho) (by omega)
            · simp only [if_neg ha]
              exact h199 L1 (left - n) (by rw [← hL1, ← hn]; exact zl_cross_B hB hac ho (by omega)) (by omega)
          · obtain rfl : n = 0 := by omega
            have hLL : L1 = L := by rw [← hL1]; exact zl_cross0 L ac o
            rw [hp rfl]
            simp only [if_neg hn0, Nat.sub_zero, if_neg (show ¬ L 4 o = 0 by omega), if_true]
            cases hpo : zl_poor L o
            · rw [if_pos (by decide), if_pos (by decide)]
              unfold zf_Mo_trade_199
              obtain ⟨g, rfl⟩ : ∃ g, fuel = g + 1 := ⟨fuel - 1, by omega⟩
              rw [zb_stop, hLL]
              rfl
            · rw [if_neg (by decide), if_neg (by decide)]
              have := h192 left (by rw [hLL]; exact zl_remx_B hB ho) hl
              rw [hLL] at this ⊢
              exact this
        rw [show nI left - nI n = nI (left - n) from pk_sub n2]
        simp only [zr_g29, zr_g26, zr_g28, zr_g30, Option.bind_some, zb_r29 hv (show o < 9 by omega), zb_r28 hv (show o < 9 by omega), zb_r30 hv (show o < 9 by omega), r1, r2, r3, pk_mul, nI_add, Nat.add_assoc, zb_r26 hv (show 2 * L 1 o < 8 by omega), zb_r26 hv (show 2 * L 1 o + 1 < 8 by omega)]
        have hB1 : L1 0 (2 * L 1 o) < 2 ^ 31 ∧ L1 0 (2 * L 1 o + 1) < 2 ^ 31 := by
          have hb : zl_buy L ac o < 4 := by unfold zl_buy; split <;> omega
          have hs : zl_sel L ac o < 4 := by unfold zl_sel; split <;> omega
          have hsum := zl_cross_sum (L := L) hb hs (zl_pay (L := L) (ac := ac) (o := o) (left := left)) (zl_n_le L ac o left).2.2.1
          rw [hn] at hsum
          have e0 : ∀ i, L1 0 i = zl_c2 (zl_c1 L (zl_buy L ac o) (n * L 3 o) n) (zl_sel L ac o) (n * L 3 o) n 0 i := fun i => by rw [← hL1]; unfold zl_cross; rw [u2_k (by decide)]
          rw [e0, e0]
          obtain ⟨s1, s2⟩ := hsum
          have b1 := hB.1
          have b2 := hB.2.1
          rcases (show L 1 o = 0 ∨ L 1 o = 1 ∨ L 1 o = 2 ∨ L 1 o = 3 by omega) with e | e | e | e <;> rw [e] <;> simp only [Nat.reduceMul, Nat.reduceAdd] <;> omega
        simp only [nI_eq (show L 2 o < 2 ^ 31 by omega) (show 1 < 2 ^ 31 by decide), zn_eq0 hB1.2, nI_leI (show L 3 o < 2 ^ 31 by omega) hB1.1]
        by_cases hsd : L 2 o = 1
        · rw [if_pos hsd]
          by_cases hp : L1 0 (2 * L 1 o + 1) = 0
          · rw [if_pos hp]
            exact h153 true (fun h0 => by
              subst h0
              have hLL : L1 = L := by rw [← hL1]; exact zl_cross0 L ac o
              rw [hLL] at hp
              unfold zl_poor; rw [if_pos hsd, hp]; rfl)
          · rw [if_neg hp]
            exact h153 false (fun h0 => by
              subst h0
              have hLL : L1 = L := by rw [← hL1]; exact zl_cross0 L ac o
              rw [hLL] at hp
              unfold zl_poor; rw [if_pos hsd, beq_false_of_ne hp])
        · rw [if_neg hsd]
          by_cases hp : L 3 o ≤ L1 0 (2 * L 1 o)
          · rw [if_pos hp]
            exact h153 false (fun h0 => by
              subst h0
              have hLL : L1 = L := by rw [← hL1]; exact zl_cross0 L ac o
              rw [hLL] at hp
              unfold zl_poor; rw [if_neg hsd, decide_eq_false (by omega)])
          · rw [if_neg hp]
            exact h153 true (fun h0 => by
              subst h0
              have hLL : L1 = L := by rw [← hL1]; exact zl_cross0 L ac o
              rw [hLL] at hp
              unfold zl_poor; rw [if_neg hsd, decide_eq_true (by omega)])
theorem zb_trade (hv : v < 5) {L : zq_Q} (hB : zl_B L) {k kd ac wh ot am : Nat} (ht : zb_tx S k kd ac wh ot am) (hk1 : 1 ≤ ot ∧ ot ≤ 9) : zf_Mo_trade m (nI v) (nI k) (zr d m (zv S v L)) = some ((), zr d m (zv S v (zl_offer L ac wh ot am))) := by
  have hac : ac < 4 := ht.2.2.2.2.2.2.2.1
  have ham : am ≤ 1000 := ht.2.2.2.2.2.2.2.2.2.2.2.2
  obtain ⟨-, -, -, -, t5⟩ := zb_rt (d := d) (m := m) (v := v) (L := L) ht
  unfold zf_Mo_trade
  simp only [zr_g25, Option.bind_some, t5]
  rw [zb_trade13 hv ht hk1 1100 am 0 1101 L (by decide) (by decide) hB ham]
  have hB2 := zl_trade_B (ow := wh) (lim := ot) hac 1100 am L hB
  exact zb_trade205 hv hB2.1 ht (by omega)
theorem zb_carry (hv : v < 5) {L : zq_Q} (hB : zl_B L) {k kd ac wh ot am : Nat} (ht : zb_tx S k kd ac wh ot am) : zf_Mo_carry m (nI v) (nI k) (zr d m (zv S v L)) = some ((), zr d m (zv S v (zl_carry L kd ac wh ot am))) := by
  have hac : ac < 4 := ht.2.2.2.2.2.2.2.1
  have hwh : wh < 2 := ht.2.2.2.2.2.2.2.2.1
  have hkd : kd < 2 := ht.2.2.2.2.2.2.1
  have ham : am ≤ 1000 := ht.2.2.2.2.2.2.2.2.2.2.2.2
  have hb := zl_B_c hB hac
  have t := fun M : zq_Q => zb_rt (d := d) (m := m) (v := v) (L := M) ht
  unfold zf_Mo_carry
  simp only [zr_g22, zr_g26, Option.bind_some, (t L).2.1, pk_mul, nI_add, zb_r26 hv (show 2 * ac < 8 by omega)]
  unfold zl_carry
  by_cases h0 : L 0 (2 * ac) = 0
  · rw [if_pos ((zn_eq0 (by omega)).mpr h0), if_pos h0]
  · rw [if_neg (fun h => h0 ((zn_eq0 (by omega)).mp h)), if_neg h0, pk_sub (by omega), zb_w26 hv (by omega)]
    generalize hL1 : u2 L 0 (2 * ac) (L 0 (2 * ac) - 1) = L1
    have hB1 : zl_B L1 := by
      have := zl_carry_B hB (kd := 0) (ac := ac) (wh := wh) (ot := 0) (am := 1001) hac hwh (by omega) (by omega)
      rw [← hL1]
      refine ⟨?_, ?_, by rw [u2_k (by decide)]; exact hB.2.2.1, fun k hk => ?_⟩
      · have := hB.1
        rcases (show ac = 0 ∨ ac = 1 ∨ ac = 2 ∨ ac = 3 by omega) with rfl | rfl | rfl | rfl <;> simp [u2] <;> omega
      · have := hB.2.1
        rcases (show ac = 0 ∨ ac = 1 ∨ ac = 2 ∨ ac = 3 by omega) with rfl | rfl | rfl | rfl <;> simp [u2] <;> omega
      · rw [u2_k (by decide)] at hk
        rw [u2_k (by decide), u2_k (by decide), u2_k (by decide), u2_k (by decide)]
        exact hB.2.2.2 k hk
    simp only [Option.bind_some, zr_g21, (t L1).1]
    by_cases hk1 : kd = 1
    · rw [if_pos (by rw [hk1]), if_pos hk1]
      simp only [zr_gc, Option.bind_some, zb_trade hv hB1 ht (ht.2.2.2.2.2.2.2.2.2.1 hk1)]
    · have hot : ot < 4 := ht.2.2.2.2.2.2.2.2.2.2.1 hk1
      have hb1 := zl_B_c hB1 hac
      have hb2 := zl_B_c hB1 hot
      have hbw : L1 0 (2 * ac + wh) ≤ 400 := by
        rcases (show wh = 0 ∨ wh = 1 by omega) with rfl | rfl
        · exact hb1.1
        · omega
      rw [if_neg (fun h => hk1 ((nI_eq (by omega) (by decide)).mp h)), if_neg hk1]
      simp only [zr_g23, zr_g26, zr_g25, Option.bind_some, (t L1).2.2.1, (t L1).2.2.2.2, nI_add, Nat.add_assoc, zb_r26 hv (show 2 * ac + wh < 8 by omega)]
      by_cases hc : am ≤ L1 0 (2 * ac + wh)
      · rw [if_pos (nI_le hc (by omega)), if_pos hc, pk_sub hc, zb_w26 hv (by omega)]
        generalize hL2 : u2 L1 0 (2 * ac + wh) (L1 0 (2 * ac + wh) - am) = L2
        simp only [Option.bind_some, zr_g26, zr_g24, zr_g25, (t L2).2.2.2.1, (t L2).2.2.2.2, pk_mul, nI_add, Nat.add_assoc, zb_r26 hv (show 2 * ot + wh < 8 by omega), zb_w26 hv (show 2 * ot + wh < 8 by omega)]
      · rw [if_neg (nI_ge (by omega) (by omega)), if_neg hc]
end RD
