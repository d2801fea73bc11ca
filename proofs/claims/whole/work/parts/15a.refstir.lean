/-! The reference: a slot is closed; the last rule; the passes. -/
def zv_get (S : Nat → Nat → Nat) (v : Nat) : zq_Q := fun j i => if j = 0 then S 26 (8 * v + i) else if j = 5 then S 27 v else S (27 + j) (9 * v + i)
theorem zv_id {S : Nat → Nat → Nat} {v : Nat} : zv S v (zv_get S v) = S := by
  funext k i
  unfold zv zv_get
  by_cases c1 : k = 26 ∧ 8 * v ≤ i ∧ i < 8 * v + 8
  · rw [if_pos c1, if_pos rfl, show 8 * v + (i - 8 * v) = i by omega, c1.1]
  · rw [if_neg c1]
    by_cases c2 : 28 ≤ k ∧ k < 32 ∧ 9 * v ≤ i ∧ i < 9 * v + 9
    · rw [if_pos c2, if_neg (by omega), if_neg (by omega), show 9 * v + (i - 9 * v) = i by omega, show 27 + (k - 27) = k by omega]
    · rw [if_neg c2]
      by_cases c3 : k = 27 ∧ i = v
      · rw [if_pos c3, if_neg (by omega), if_pos rfl, c3.1, c3.2]
      · rw [if_neg c3]
def zi_tx (S : Nat → Nat → Nat) : Prop := ∀ k, k < 9 → S 20 k < 2 ∧ (S 20 k = 1 → zb_tx S k (S 21 k) (S 22 k) (S 23 k) (S 24 k) (S 25 k))
/-- the transactions of value x in slot s, the first n of them -/
def zl_run (S : Nat → Nat → Nat) (s x : Nat) : Nat → zq_Q → zq_Q
  | 0, L => L
  | n + 1, L => if x.testBit n && S 20 (3 * s + n) == 1 then zl_carry (zl_run S s x n L) (S 21 (3 * s + n)) (S 22 (3 * s + n)) (S 23 (3 * s + n)) (S 24 (3 * s + n)) (S 25 (3 * s + n)) else zl_run S s x n L
def zs_led (S : Nat → Nat → Nat) (v x : Nat) : zq_Q := zl_run S (S 7 v) x 3 (zv_get S v)
def zs_ext (S : Nat → Nat → Nat) (v x : Nat) : Nat → Nat → Nat := fun k i =>
  if k = 14 ∧ i = 3 * v + S 7 v then x else if k = 15 ∧ i = v then 31 * (31 * S 15 v + S 7 v) + x else if k = 7 ∧ i = v then S 7 v + 1
  else if 8 ≤ k ∧ k < 12 ∧ i = v then 0 else if k = 13 ∧ 30 * v ≤ i ∧ i < 30 * v + 30 then 0 else zv S v (zs_led S v x) k i
theorem zl_run_B {S : Nat → Nat → Nat} (ht : zi_tx S) {s x : Nat} (hs : s < 3) : ∀ n, n ≤ 3 → ∀ L, zl_B L → zl_B (zl_run S s x n L) := by
  intro n
  induction n with
  | zero => intro _ L h; exact h
  | succ n ih =>
    intro hn L h
    unfold zl_run
    split
    · rename_i hc
      simp only [Bool.and_eq_true, beq_iff_eq] at hc
      have t := (ht (3 * s + n) (by omega)).2 hc.2
      exact zl_carry_B (ih (by omega) L h) t.2.2.2.2.2.2.2.1 t.2.2.2.2.2.2.2.2.1 t.2.2.2.2.2.2.2.2.2.1 t.2.2.2.2.2.2.2.2.2.2.1 t.2.2.2.2.2.2.2.2.2.2.2.2
    · exact ih (by omega) L h
section RE
variable {S : Nat → Nat → Nat} {v : Nat} {d : za_h} {m : Nat}
theorem zs_ext134 (hv : v < 5) {M : Nat → Nat → Nat} : ∀ (r j f : Nat), j + r = 30 → r < f → zf_Mo_externalize_134 f m (nI v) (nI (30 * v + j)) (zr d m (fun k i => if k = 13 ∧ 30 * v ≤ i ∧ i < 30 * v + j then 0 else M k i)) = some ((), zr d m (fun k i => if k = 13 ∧ 30 * v ≤ i ∧ i < 30 * v + 30 then 0 else M k i)) := by
  intro r
  induction r with
  | zero =>
    intro j f hj hf
    obtain ⟨f, rfl⟩ : ∃ g, f = g + 1 := ⟨f - 1, by omega⟩
    obtain rfl : j = 30 := by omega
    rw [zf_Mo_externalize_134, pk_mul, nI_add, if_pos (Int32.le_refl _)]
  | succ r ih =>
    intro j f hj hf
    obtain ⟨f, rfl⟩ : ∃ g, f = g + 1 := ⟨f - 1, by omega⟩
    rw [zf_Mo_externalize_134, pk_mul, nI_add, if_neg (nI_ge (by omega) (by omega))]
    simp only [zr_g13, Option.bind_some, zr_s13 (show 30 * v + j < 150 by omega), nI_add, Nat.add_assoc]
    rw [← ih (j + 1) f (by omega) (by omega)]
    congr 2
    funext k i
    unfold u2
    by_cases h1 : k = 13 ∧ i = 30 * v + j
    · rw [if_pos h1, if_pos (by omega)]
    · rw [if_neg h1]
      show (if k = 13 ∧ 30 * v ≤ i ∧ i < 30 * v + j then 0 else M k i) = _
      by_cases h2 : k = 13 ∧ 30 * v ≤ i ∧ i < 30 * v + j
      · rw [if_pos h2, if_pos (by omega)]
      · rw [if_neg h2, if_neg (by omega)]
theorem zs_extz (hv : v < 5) (hs : S 7 v < 3) (ht : zi_tx S) (hL : zl_B (zv_get S v)) {x : Nat} (hx : x < 8) : zf_Mo_externalize m (nI v) (nI x) (zr d m S) = some ((), zr d m (zs_ext S v x)) := by
  generalize hS1 : u2 S 14 (3 * v + S 7 v) x = S1
  have row : ∀ k, k ≠ 14 → S1 k = S k := fun k hk => by rw [← hS1, u2_row hk]
  have hget : zv_get S1 v = zv_get S v := by
    funext j i; unfold zv_get
    rw [row 26 (by decide), row 27 (by decide)]
    by_cases h0 : j = 0
    · rw [if_pos h0, if_pos h0]
    · rw [if_neg h0, if_neg h0, row (27 + j) (by omega)]
  have ht1 : ∀ k, k < 9 → S1 20 k < 2 ∧ (S1 20 k = 1 → zb_tx S1 k (S 21 k) (S 22 k) (S 23 k) (S 24 k) (S 25 k)) := by
    intro k hk
    rw [row 20 (by decide)]
    refine ⟨(ht k hk).1, fun h => ?_⟩
    have := (ht k hk).2 h
    unfold zb_tx at this ⊢
    rw [row 21 (by decide), row 22 (by decide), row 23 (by decide), row 24 (by decide), row 25 (by decide)]
    exact this
  have loop : ∀ (r j f : Nat), j + r = 3 → r < f → zf_Mo_externalize_21 f m (nI v) (nI x) (nI (S 7 v)) (nI j) (zr d m (zv S1 v (zl_run S (S 7 v) x j (zv_get S v)))) = zf_Mo_externalize_21 1 m (nI v) (nI x) (nI (S 7 v)) (nI 3) (zr d m (zv S1 v (zs_led S v x))) := by
    intro r
    induction r with
    | zero =>
      intro j f hj hf
      obtain ⟨f, rfl⟩ : ∃ g, f = g + 1 := ⟨f - 1, by omega⟩
      obtain rfl : j = 3 := by omega
      rw [zf_Mo_externalize_21, if_pos (Int32.le_refl _), zf_Mo_externalize_21, if_pos (Int32.le_refl _)]
      rfl
    | succ r ih =>
      intro j f hj hf
      obtain ⟨f, rfl⟩ : ∃ g, f = g + 1 := ⟨f - 1, by omega⟩
      have hk9 : 3 * S 7 v + j < 9 := by omega
      obtain ⟨t1, t2⟩ := ht1 _ hk9
      have hB := zl_run_B ht hs (x := x) j (by omega) _ hL
      have e20 : zv S1 v (zl_run S (S 7 v) x j (zv_get S v)) 20 (3 * S 7 v + j) = S 20 (3 * S 7 v + j) := by rw [zv_row (by omega), row 20 (by decide)]
      rw [row 20 (by decide)] at t1 t2
      rw [zf_Mo_externalize_21, if_neg (nI_ge (by omega) (by decide)), zn_bit (by omega) (by omega)]
      unfold zf_Mo_externalize_62
      simp only [zr_g20, zr_gc, Option.bind_some, pk_mul, nI_add, zr_l20 hk9, e20]
      have ihj := ih (j + 1) f (by omega) (by omega)
      rw [zl_run] at ihj
      cases hb : x.testBit j
      · rw [if_neg (by decide)]
        rw [hb, Bool.false_and] at ihj
        exact ihj
      · rw [if_pos (by decide)]
        rw [hb, Bool.true_and] at ihj
        by_cases hset : S 20 (3 * S 7 v + j) = 1
        · rw [if_neg (by rw [hset]; decide), zb_carry hv hB (t2 hset)]
          simp only [Option.bind_some]
          rw [hset] at ihj
          exact ihj
        · rw [if_pos (by rw [show S 20 (3 * S 7 v + j) = 0 by omega]; rfl)]
          rw [beq_false_of_ne hset] at ihj
          exact ihj
  unfold zf_Mo_externalize
  simp only [zr_g7, zr_g14, Option.bind_some, zr_l7 hv, pk_mul, nI_add, zr_s14 (show 3 * v + S 7 v < 15 by omega)]
  rw [hS1]
  have e0 : zr d m S1 = zr d m (zv S1 v (zl_run S (S 7 v) x 0 (zv_get S v))) := by
    show zr d m S1 = zr d m (zv S1 v (zv_get S v))
    rw [← hget, zv_id]
  rw [e0, loop 3 0 31 (by decide) (by decide), zf_Mo_externalize_21, if_pos (Int32.le_refl _)]
  generalize hM : zv S1 v (zs_led S v x) = M
  have m15 : M 15 v = S 15 v := by rw [← hM, zv_row (by omega), row 15 (by decide)]
  have m7 : M 7 v = S 7 v := by rw [← hM, zv_row (by omega), row 7 (by decide)]
  simp only [zr_g15, zr_g7, zr_g8, zr_g9, zr_g10, zr_g11, Option.bind_some, zr_l15 hv, zr_s15 hv, zr_l7 hv, zr_s7 hv, zr_s8 hv, zr_s9 hv, zr_s10 hv, zr_s11 hv, pk_mul, nI_add, m15, u2_k (show (7 : Nat) ≠ 15 by decide), m7]
  generalize hN : u2 (u2 (u2 (u2 (u2 (u2 M 15 v (31 * (31 * S 15 v + S 7 v) + x)) 7 v (S 7 v + 1)) 8 v 0) 9 v 0) 10 v 0) 11 v 0 = N
  have e1 : zr d m N = zr d m (fun k i => if k = 13 ∧ 30 * v ≤ i ∧ i < 30 * v + 0 then 0 else N k i) := zr_eq fun a b => by rw [if_neg (by omega)]
  have l := zs_ext134 (d := d) (m := m) hv (M := N) 30 0 31 (by decide) (by decide)
  rw [Nat.add_zero] at l
  rw [e1, Nat.add_zero, l]
  congr 2
  apply zr_eq
  intro k i
  unfold zs_ext
  rw [← hN, ← hM]
  unfold u2
  by_cases c1 : k = 13 ∧ 30 * v ≤ i ∧ i < 30 * v + 30
  · rw [if_pos c1, if_neg (by omega), if_neg (by omega), if_neg (by omega), if_neg (by omega), if_pos c1]
  · rw [if_neg c1]
    by_cases c2 : 8 ≤ k ∧ k < 12 ∧ i = v
    · rw [if_neg (show ¬ (k = 14 ∧ i = 3 * v + S 7 v) by omega), if_neg (show ¬ (k = 15 ∧ i = v) by omega), if_neg (show ¬ (k = 7 ∧ i = v) by omega), if_pos c2]
      rcases (show k = 8 ∨ k = 9 ∨ k = 10 ∨ k = 11 by omega) with e | e | e | e <;> simp [e, c2.2.2]
    · have n11 : ¬ (k = 11 ∧ i = v) := by omega
      have n10 : ¬ (k = 10 ∧ i = v) := by omega
      have n9 : ¬ (k = 9 ∧ i = v) := by omega
      have n8 : ¬ (k = 8 ∧ i = v) := by omega
      simp only [if_neg n11, if_neg n10, if_neg n9, if_neg n8, if_neg c2, if_neg c1]
      by_cases c3 : k = 7 ∧ i = v
      · simp only [if_pos c3]
        rw [if_neg (by omega), if_neg (by omega)]
      · simp only [if_neg c3]
        by_cases c4 : k = 15 ∧ i = v
        · simp only [if_pos c4]
          rw [if_neg (by omega)]
        · simp only [if_neg c4]
          by_cases c5 : k = 14 ∧ i = 3 * v + S 7 v
          · rw [if_pos c5, zv_row (by omega), ← hS1, c5.1, c5.2, u2_s]
          · rw [if_neg c5]
            unfold zv
            rw [show S1 k i = S k i by rw [← hS1]; unfold u2; rw [if_neg c5]]
end RE
