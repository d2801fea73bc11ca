/-! The reference: removal, trades, a transaction carried out. -/
section RC
variable {S : Nat → Nat → Nat} {v : Nat} {d : za_h} {m : Nat} {L : zq_Q}
theorem zl_sh_n {M : zq_Q} {o : Nat} : zl_sh M o o = M := by
  funext j i; unfold zl_sh; rw [if_neg (by omega)]
theorem zl_sh_r {M : zq_Q} {o q j i : Nat} (h : j = 0 ∨ 4 < j ∨ i < o ∨ q ≤ i) : zl_sh M o q j i = M j i := by
  unfold zl_sh; rw [if_neg (by omega)]
theorem zl_sh_s {M : zq_Q} {o q : Nat} (h : o ≤ q) : u2 (u2 (u2 (u2 (zl_sh M o q) 1 q (M 1 (q + 1))) 2 q (M 2 (q + 1))) 3 q (M 3 (q + 1))) 4 q (M 4 (q + 1)) = zl_sh M o (q + 1) := by
  funext j i
  by_cases hi : i = q
  · subst hi
    by_cases h1 : j = 1
    · subst h1; rw [u2_k (by decide), u2_k (by decide), u2_k (by decide), u2_s]; unfold zl_sh; rw [if_pos (by omega)]
    by_cases h2 : j = 2
    · subst h2; rw [u2_k (by decide), u2_k (by decide), u2_s]; unfold zl_sh; rw [if_pos (by omega)]
    by_cases h3 : j = 3
    · subst h3; rw [u2_k (by decide), u2_s]; unfold zl_sh; rw [if_pos (by omega)]
    by_cases h4 : j = 4
    · subst h4; rw [u2_s]; unfold zl_sh; rw [if_pos (by omega)]
    rw [u2_k h4, u2_k h3, u2_k h2, u2_k h1, zl_sh_r (by omega), zl_sh_r (by omega)]
  · rw [u2_i hi, u2_i hi, u2_i hi, u2_i hi]
    unfold zl_sh
    by_cases hc : 1 ≤ j ∧ j ≤ 4 ∧ o ≤ i ∧ i < q
    · rw [if_pos hc, if_pos (by omega)]
    · rw [if_neg hc, if_neg (by omega)]
theorem zb_remove12 (hv : v < 5) {M : zq_Q} {o : Nat} (h8 : M 5 0 ≤ 7) : ∀ (r q f : Nat), q + r = M 5 0 → o ≤ q → r < f → zf_Mo_remove_12 f m (nI v) (nI (9 * v + q)) (zr d m (zv S v (zl_sh M o q))) = some ((), zr d m (zv S v (zl_sh M o (M 5 0)))) := by
  intro r
  induction r with
  | zero =>
    intro q f hq ho hf
    obtain ⟨f, rfl⟩ : ∃ g, f = g + 1 := ⟨f - 1, by omega⟩
    obtain rfl : q = M 5 0 := by omega
    rw [zf_Mo_remove_12]
    simp only [zr_g27, Option.bind_some, zb_r27 hv, zl_sh_r (show 5 = 0 ∨ 4 < 5 ∨ 0 < o ∨ M 5 0 ≤ 0 by omega), pk_mul, nI_add]
    rw [if_pos (Int32.le_refl _)]
  | succ r ih =>
    intro q f hq ho hf
    obtain ⟨f, rfl⟩ : ∃ g, f = g + 1 := ⟨f - 1, by omega⟩
    have hq9 : q < 9 := by omega
    have hq19 : q + 1 < 9 := by omega
    rw [zf_Mo_remove_12]
    simp only [zr_g27, Option.bind_some, zb_r27 hv, zl_sh_r (show 5 = 0 ∨ 4 < 5 ∨ 0 < o ∨ q ≤ 0 by omega), pk_mul, nI_add]
    rw [if_neg (nI_ge (by omega) (by omega))]
    simp only [Nat.add_assoc, zr_g28, zr_g29, zr_g30, zr_g31, Option.bind_some, zb_r28 hv hq19, zb_w28 hv hq9, zb_r29 hv hq19, zb_w29 hv hq9, zb_r30 hv hq19, zb_w30 hv hq9, zb_r31 hv hq19, zb_w31 hv hq9,
      u2_k (show (2 : Nat) ≠ 1 by decide), u2_k (show (3 : Nat) ≠ 1 by decide), u2_k (show (3 : Nat) ≠ 2 by decide), u2_k (show (4 : Nat) ≠ 1 by decide), u2_k (show (4 : Nat) ≠ 2 by decide), u2_k (show (4 : Nat) ≠ 3 by decide)]
    rw [zl_sh_r (j := 1) (i := q + 1) (by omega), zl_sh_r (j := 2) (i := q + 1) (by omega), zl_sh_r (j := 3) (i := q + 1) (by omega), zl_sh_r (j := 4) (i := q + 1) (by omega), zl_sh_s ho]
    exact ih (q + 1) f (by omega) (by omega) (by omega)
theorem zb_remove (hv : v < 5) {o : Nat} (h8 : L 5 0 ≤ 8) (ho : o < L 5 0) : zf_Mo_remove m (nI v) (nI (9 * v + o)) (zr d m (zv S v L)) = some ((), zr d m (zv S v (zl_rem L o))) := by
  unfold zf_Mo_remove
  simp only [zr_g27, Option.bind_some, zb_r27 hv]
  rw [show nI (L 5 0) - nI 1 = nI (L 5 0 - 1) from pk_sub (by omega), zb_w27 hv]
  simp only [Option.bind_some]
  have e := zb_remove12 (m := m) (d := d) (S := S) hv (M := u2 L 5 0 (L 5 0 - 1)) (o := o) (by rw [u2_s]; omega) (L 5 0 - 1 - o) o 10 (by rw [u2_s]; omega) (Nat.le_refl _) (by omega)
  rw [zl_sh_n] at e
  rw [e, u2_s]
  rfl
theorem zb_cross164 (hv : v < 5) {b s o n : Nat} (hb : b < 4) (hs : s < 4) (ho : o < 9) (hp : n * L 3 o ≤ L 0 (2 * b)) (hn : n ≤ L 0 (2 * s + 1)) (hm : n ≤ L 4 o) :
    zf_Mo_cross_164 m (nI (9 * v + o)) (nI (8 * v + 2 * b)) (nI (8 * v + (2 * s + 1))) (nI n) (zr d m (zv S v L)) = some (nI n, zr d m (zv S v (u2 (zl_c2 (zl_c1 L b (n * L 3 o) n) s (n * L 3 o) n) 4 o (L 4 o - n)))) := by
  have hns : n ≤ zl_c1 L b (n * L 3 o) n 0 (2 * s + 1) := by
    unfold zl_c1
    by_cases hsb : s = b
    · subst hsb; rw [u2_s]; omega
    · rw [u2_i (by omega), u2_i (by omega)]; exact hn
  unfold zf_Mo_cross_164
  simp only [zr_g26, zr_g30, zr_g31, Option.bind_some, zb_r26 hv (show 2 * b < 8 by omega), zb_r30 hv ho, pk_mul]
  rw [pk_sub hp, zb_w26 hv (by omega)]
  simp only [zr_g26, Option.bind_some, nI_add, Nat.add_assoc, zb_r26 hv (show 2 * b + 1 < 8 by omega), u2_i (show 2 * b + 1 ≠ 2 * b by omega), zb_w26 hv (show 2 * b + 1 < 8 by omega)]
  rw [show u2 (u2 L 0 (2 * b) (L 0 (2 * b) - n * L 3 o)) 0 (2 * b + 1) (L 0 (2 * b + 1) + n) = zl_c1 L b (n * L 3 o) n from rfl, zb_r26 hv (show 2 * s + 1 < 8 by omega)]
  simp only [Option.bind_some]
  rw [pk_sub hns, zb_w26 hv (by omega)]
  simp only [Option.bind_some, zr_g26, zr_g30]
  rw [show nI (8 * v + (2 * s + 1)) - nI 1 = nI (8 * v + 2 * s) by rw [pk_sub (by omega), show 8 * v + (2 * s + 1) - 1 = 8 * v + 2 * s by omega]]
  rw [zb_r26 hv (show 2 * s < 8 by omega), zb_r30 hv ho, u2_i (show 2 * s ≠ 2 * s + 1 by omega), u2_k (show (3 : Nat) ≠ 0 by decide)]
  have e3 : zl_c1 L b (n * L 3 o) n 3 o = L 3 o := by unfold zl_c1; rw [u2_k (by decide), u2_k (by decide)]
  rw [e3]
  simp only [Option.bind_some, pk_mul, nI_add]
  rw [zb_w26 hv (by omega)]
  simp only [Option.bind_some, zr_g31]
  rw [show u2 (u2 (zl_c1 L b (n * L 3 o) n) 0 (2 * s + 1) (zl_c1 L b (n * L 3 o) n 0 (2 * s + 1) - n)) 0 (2 * s) (zl_c1 L b (n * L 3 o) n 0 (2 * s) + n * L 3 o) = zl_c2 (zl_c1 L b (n * L 3 o) n) s (n * L 3 o) n from rfl, zb_r31 hv ho, zl_c_row (by decide)]
  simp only [Option.bind_some]
  rw [pk_sub hm, zb_w31 hv ho]
  rfl
theorem zb_cross (hv : v < 5) (hB : zl_B L) {k kd ac wh ot am o left : Nat} (ht : zb_tx S k kd ac wh ot am) (ho : o < L 5 0) (hl : left ≤ 1000) :
    zf_Mo_cross m (nI v) (nI k) (nI (9 * v + o)) (nI left) (zr d m (zv S v L)) = some (nI (zl_n L ac o left), zr d m (zv S v (zl_cross L ac o (zl_n L ac o left)))) := by
  obtain ⟨t1, t2, t3, t4, t5⟩ := zb_rt (d := d) (m := m) (v := v) (L := L) ht
  obtain ⟨-, -, -, -, -, -, -, hac, -⟩ := ht
  have h8 := hB.2.2.1
  have ho9 : o < 9 := by omega
  obtain ⟨o1, o2, o3, o4, o5, o6⟩ := hB.2.2.2 o ho
  have hb : zl_buy L ac o < 4 := by unfold zl_buy; split <;> omega
  have hs : zl_sel L ac o < 4 := by unfold zl_sel; split <;> omega
  have hbB := zl_B_c hB hb
  have hsB := zl_B_c hB hs
  obtain ⟨n1, n2, n3, n4⟩ := zl_n_le L ac o left
  have key : zf_Mo_cross_50 m (nI v) (nI (9 * v + o)) (nI left) (nI (zl_buy L ac o)) (nI (zl_sel L ac o)) (zr d m (zv S v L)) = some (nI (zl_n L ac o left), zr d m (zv S v (zl_cross L ac o (zl_n L ac o left)))) := by
    have fin : ∀ n, n = zl_n L ac o left → zf_Mo_cross_164 m (nI (9 * v + o)) (nI (8 * v + 2 * zl_buy L ac o)) (nI (8 * v + (2 * zl_sel L ac o + 1))) (nI n) (zr d m (zv S v L)) = some (nI (zl_n L ac o left), zr d m (zv S v (zl_cross L ac o (zl_n L ac o left)))) := by
      intro n hn
      subst hn
      exact zb_cross164 hv hb hs ho9 zl_pay n3 n1
    have e124 : ∀ q, q = zl_mn (zl_mn (L 4 o) left) (L 0 (2 * zl_sel L ac o + 1)) → zf_Mo_cross_124 m (nI (9 * v + o)) (nI (8 * v + 2 * zl_buy L ac o)) (nI (8 * v + (2 * zl_sel L ac o + 1))) (nI q) (zr d m (zv S v L)) = some (nI (zl_n L ac o left), zr d m (zv S v (zl_cross L ac o (zl_n L ac o left)))) := by
      intro q hq
      have hq2 : q ≤ 80 := by
        have := (zl_mn_le (zl_mn (L 4 o) left) (L 0 (2 * zl_sel L ac o + 1))).2
        omega
      have hdv : L 0 (2 * zl_buy L ac o) / L 3 o ≤ 400 := Nat.le_trans (Nat.div_le_self _ _) hbB.1
      unfold zf_Mo_cross_124
      simp only [zr_g26, zr_g30, Option.bind_some, zb_r26 hv (show 2 * zl_buy L ac o < 8 by omega), zb_r30 hv ho9]
      rw [if_neg (fun h => absurd ((zn_eq0 (by omega)).mp h) (by omega)), pk_div (by omega) (by omega) (by omega)]
      by_cases hc : q ≤ L 0 (2 * zl_buy L ac o) / L 3 o
      · rw [if_pos (nI_le hc (by omega))]
        refine fin q ?_
        unfold zl_n
        rw [← hq, zl_mn, if_pos hc]
      · rw [if_neg (nI_ge (by omega) (by omega)), if_neg (fun h => absurd ((zn_eq0 (by omega)).mp h) (by omega))]
        refine fin _ ?_
        unfold zl_n
        rw [← hq, zl_mn, if_neg hc]
    have e98 : ∀ q, q = zl_mn (L 4 o) left → zf_Mo_cross_98 m (nI (9 * v + o)) (nI (8 * v + 2 * zl_buy L ac o)) (nI (8 * v + (2 * zl_sel L ac o + 1))) (nI q) (zr d m (zv S v L)) = some (nI (zl_n L ac o left), zr d m (zv S v (zl_cross L ac o (zl_n L ac o left)))) := by
      intro q hq
      have hq2 : q ≤ 1000 := by
        have := (zl_mn_le (L 4 o) left).1
        omega
      unfold zf_Mo_cross_98
      simp only [zr_g26, Option.bind_some, zb_r26 hv (show 2 * zl_sel L ac o + 1 < 8 by omega)]
      by_cases hc : q ≤ L 0 (2 * zl_sel L ac o + 1)
      · rw [if_pos (nI_le hc (by omega))]
        refine e124 q ?_
        rw [← hq, zl_mn, if_pos hc]
      · rw [if_neg (nI_ge (by omega) (by omega))]
        refine e124 _ ?_
        rw [← hq, zl_mn, if_neg hc]
    unfold zf_Mo_cross_50
    simp only [zr_g31, Option.bind_some, zb_r31 hv ho9, pk_mul, nI_add, Nat.add_assoc]
    by_cases hc : L 4 o ≤ left
    · rw [if_pos (nI_le hc (by omega))]
      exact e98 _ (by rw [zl_mn, if_pos hc])
    · rw [if_neg (nI_ge (by omega) (by omega))]
      exact e98 _ (by rw [zl_mn, if_neg hc])
  unfold zf_Mo_cross zf_Mo_cross_24
  simp only [zr_g29, zr_g28, zr_g22, Option.bind_some, zb_r29 hv ho9, zb_r28 hv ho9, t2]
  unfold zl_buy zl_sel at key
  by_cases h0 : L 2 o = 0
  · simp only [h0, if_true] at key
    simp only [h0, z00, if_true]
    exact key
  · simp only [h0, if_false] at key
    rw [if_neg (fun h => h0 ((zn_eq0 (by omega)).mp h)), if_neg (fun h => h0 ((zn_eq0 (by omega)).mp h))]
    exact key
end RC
