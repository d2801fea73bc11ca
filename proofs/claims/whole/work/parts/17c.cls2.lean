/-! The class: the quorum's walk, statements. -/
section YQ
variable {d : za_h} {x : Nat} {T : Nat → Nat → Nat} {U : Nat → Nat → Option Nat}
theorem yP_mono : ∀ a b u, u < 5 → (∀ w, w < 5 → a.testBit w = true → b.testBit w = true) → yP T a u = true → yP T b u = true := fun _ _ _ _ h hs => zq_sat_mono h hs
theorem ygt25 (hT : yTb T) {k5 : Nat → Int32 → Int32 → Int32 → za_h → Option (Int32 × za_h)} {v tk bf : Nat} (hbf : bf < 32) : ∀ (n u f r : Nat), u + n = 5 → n < f → r < 32 →
    zf_Quorums_isGivenTo_25 k5 f (x + 1) (nI v) (nI r) (nI tk) (nI bf) (nI u) (zx d x T U) = (if zq_ps (yP T) n u r = bf then some (nI 1, zx d x T U) else k5 (x + 1) (nI v) (nI (zq_ps (yP T) n u r)) (nI (tk + 1)) (zx d x T U)) := by
  intro n
  induction n with
  | zero =>
    intro u f r hu hf hr
    obtain ⟨f, rfl⟩ : ∃ g, f = g + 1 := ⟨f - 1, by omega⟩
    obtain rfl : u = 5 := by omega
    rw [zf_Quorums_isGivenTo_25, if_pos (Int32.le_refl _)]
    simp only [nI_eq (show r < 2 ^ 31 by omega) (show bf < 2 ^ 31 by omega), nI_add]
    rfl
  | succ n ih =>
    intro u f r hu hf hr
    obtain ⟨f, rfl⟩ : ∃ g, f = g + 1 := ⟨f - 1, by omega⟩
    have hu5 : u < 5 := by omega
    rw [zf_Quorums_isGivenTo_25, if_neg (nI_ge hu5 (by decide)), zq_ps_s]
    unfold zf_Quorums_isGivenTo_63
    simp only [yh (show r < 2 ^ 32 by omega) (show u < 32 by omega), Option.bind_some, xq_g0, xts_l d x T U hu5, xt_c d x T U hu5, ysat hT hr hu5, nI_add, zn_shl (show u < 32 by omega), Nat.one_mul, zn_m1, zn_xor, zn_and]
    cases hb : r.testBit u
    · rw [if_pos (by decide), Bool.false_and]
      exact ih (u + 1) f r (by omega) (by omega) hr
    · rw [if_neg (by decide), Bool.true_and]
      cases hp : yP T r u
      · rw [if_pos (by decide)]
        exact ih (u + 1) f (zq_rm r u) (by omega) (by omega) (zq_rm_lt hr)
      · rw [if_neg (by decide)]
        exact ih (u + 1) f r (by omega) (by omega) hr
theorem ygt5 (hT : yTb T) {v : Nat} (hv : v < 5) : ∀ (n tk f r : Nat), tk + n = 5 → n < f → r < 32 → zf_Quorums_isGivenTo_5 f (x + 1) (nI v) (nI r) (nI tk) (zx d x T U) = some (nI (zq_gq (yP T) v n r).toNat, zx d x T U) := by
  intro n
  induction n with
  | zero =>
    intro tk f r ht hf hr
    obtain ⟨f, rfl⟩ : ∃ g, f = g + 1 := ⟨f - 1, by omega⟩
    obtain rfl : tk = 5 := by omega
    rw [zf_Quorums_isGivenTo_5, if_pos (Int32.le_refl _)]
    rfl
  | succ n ih =>
    intro tk f r ht hf hr
    obtain ⟨f, rfl⟩ : ∃ g, f = g + 1 := ⟨f - 1, by omega⟩
    rw [zf_Quorums_isGivenTo_5, if_neg (nI_ge (by omega) (by decide)), zq_gq_s]
    unfold zf_Quorums_isGivenTo_83
    simp only [yh (show r < 2 ^ 32 by omega) (show v < 32 by omega), Option.bind_some]
    cases hb : r.testBit v
    · rw [if_pos (by decide)]; rfl
    · rw [if_neg (by decide), ygt25 hT hr 5 0 6 r (by decide) (by decide) hr, if_pos rfl]
      by_cases hfx : zq_ps (yP T) 5 0 r = r
      · rw [if_pos hfx, if_pos hfx]; rfl
      · rw [if_neg hfx, if_neg hfx]
        exact ih (tk + 1) f _ (by omega) (by omega) (zq_ps_lt 5 0 r hr)
theorem ygiv (hT : yTb T) {set v : Nat} (hs : set < 32) (hv : v < 5) : zf_Quorums_isGivenTo (x + 1) (nI v) (nI set) (zx d x T U) = some (nI (zq_giv (yP T) set v).toNat, zx d x T U) := by
  unfold zf_Quorums_isGivenTo
  rw [ygt5 hT hv 5 0 6 set (by decide) (by decide) hs, zq_gq_eq yP_mono hs hv 5 set hs (zq_pop_le set) (fun w _ h => h) (fun p _ h _ => h)]
end YQ
/-- a node's registers in the class: the block of (v, s) -/
def zt (T : Nat → Nat → Nat) (v s : Nat) (Q : zq_Q) : Nat → Nat → Nat := fun q j =>
  if q = qA v s ∧ j = 6 then Q 2 3 else if q = qA v s ∧ 7 ≤ j ∧ j < 10 then Q 2 (j - 7)
  else if qS v s 0 ≤ q ∧ q < qS v s 0 + 9 then
    (if (q - qS v s 0) % 3 = 0 then (if j = 2 then Q 0 (3 * ((q - qS v s 0) / 3)) else if j = 3 then Q 0 (3 * ((q - qS v s 0) / 3) + 2) else T q j)
     else if 5 ≤ j then T q j
     else if (q - qS v s 0) % 3 = 1 then (if j = v then Q 0 (3 * ((q - qS v s 0) / 3)) ||| Q 0 (3 * ((q - qS v s 0) / 3) + 1) else Q 1 (6 * j + 2 * ((q - qS v s 0) / 3)))
     else (if j = v then Q 0 (3 * ((q - qS v s 0) / 3) + 1) else Q 1 (6 * j + 2 * ((q - qS v s 0) / 3) + 1)))
  else T q j
section YZ
variable {T : Nat → Nat → Nat} {v s : Nat} {Q : zq_Q}
theorem qS_e {k c : Nat} : qS v s k + c = qS v s 0 + (3 * k + c) := by unfold qS; omega
theorem qAS : qS v s 0 = qA v s + 1 := by unfold qS qA; omega
theorem zt_S {k c j : Nat} (hk : k < 3) (hc : c < 3) : zt T v s Q (qS v s k + c) j = if c = 0 then (if j = 2 then Q 0 (3 * k) else if j = 3 then Q 0 (3 * k + 2) else T (qS v s k + c) j) else if 5 ≤ j then T (qS v s k + c) j else if c = 1 then (if j = v then Q 0 (3 * k) ||| Q 0 (3 * k + 1) else Q 1 (6 * j + 2 * k)) else (if j = v then Q 0 (3 * k + 1) else Q 1 (6 * j + 2 * k + 1)) := by
  have e := @qS_e v s k c
  have ha := @qAS v s
  unfold zt
  rw [if_neg (by omega), if_neg (by omega), if_pos (by omega), show qS v s k + c - qS v s 0 = 3 * k + c by omega, show (3 * k + c) % 3 = c by omega, show (3 * k + c) / 3 = k by omega]
theorem zt_vo {k : Nat} (hk : k < 3) : zt T v s Q (qS v s k) 2 = Q 0 (3 * k) := by
  have := zt_S (T := T) (v := v) (s := s) (Q := Q) (c := 0) (j := 2) hk (by decide)
  rw [if_pos rfl, if_pos rfl] at this; exact this
theorem zt_co {k : Nat} (hk : k < 3) : zt T v s Q (qS v s k) 3 = Q 0 (3 * k + 2) := by
  have := zt_S (T := T) (v := v) (s := s) (Q := Q) (c := 0) (j := 3) hk (by decide)
  rw [if_pos rfl, if_neg (by decide), if_pos rfl] at this; exact this
theorem zt_bk {k j : Nat} (hk : k < 3) (hj : j < 5) : zt T v s Q (qS v s k + 1) j = if j = v then Q 0 (3 * k) ||| Q 0 (3 * k + 1) else Q 1 (6 * j + 2 * k) := by
  rw [zt_S hk (by decide), if_neg (by decide), if_neg (by omega), if_pos rfl]
theorem zt_ac {k j : Nat} (hk : k < 3) (hj : j < 5) : zt T v s Q (qS v s k + 2) j = if j = v then Q 0 (3 * k + 1) else Q 1 (6 * j + 2 * k + 1) := by
  rw [zt_S hk (by decide), if_neg (by decide), if_neg (by omega), if_neg (by decide)]
theorem zt_6 : zt T v s Q (qA v s) 6 = Q 2 3 := by unfold zt; rw [if_pos ⟨rfl, rfl⟩]
theorem zt_79 {j : Nat} (hj : j < 3) : zt T v s Q (qA v s) (7 + j) = Q 2 j := by
  unfold zt; rw [if_neg (by omega), if_pos ⟨rfl, by omega, by omega⟩, show 7 + j - 7 = j by omega]
theorem zt_out {q j : Nat} (h : q < qA v s ∨ qA v s + 10 ≤ q) : zt T v s Q q j = T q j := by
  have ha := @qAS v s
  unfold zt; rw [if_neg (by omega), if_neg (by omega), if_neg (by omega)]
theorem zt_10 {j : Nat} (h : j < 6 ∨ 10 ≤ j) : zt T v s Q (qA v s) j = T (qA v s) j := by
  have ha := @qAS v s
  unfold zt; rw [if_neg (by omega), if_neg (by omega), if_neg (by omega)]
/-- two states of registers agree where their blocks do -/
theorem zt_ext {T' : Nat → Nat → Nat} {Q' : zq_Q} (h0 : ∀ q j, q < qA v s ∨ qA v s + 10 ≤ q → T' q j = T q j) (hA : ∀ j, T' (qA v s) j = zt T v s Q' (qA v s) j) (hS : ∀ k c j, k < 3 → c < 3 → T' (qS v s k + c) j = zt T v s Q' (qS v s k + c) j) : T' = zt T v s Q' := by
  funext q j
  by_cases hq : q < qA v s ∨ qA v s + 10 ≤ q
  · rw [h0 q j hq, zt_out hq]
  · by_cases hqa : q = qA v s
    · rw [hqa]; exact hA j
    · have ha := @qAS v s
      have e := @qS_e v s ((q - qS v s 0) / 3) ((q - qS v s 0) % 3)
      have := hS ((q - qS v s 0) / 3) ((q - qS v s 0) % 3) j (by omega) (by omega)
      rw [show qS v s ((q - qS v s 0) / 3) + (q - qS v s 0) % 3 = q by omega] at this
      exact this
/-- what a vote writes -/
theorem zt_vote {k b : Nat} (hv : v < 5) (hk : k < 3) : u2 (u2 (zt T v s Q) (qS v s k) 2 (Q 0 (3 * k) ||| 2 ^ b)) (qS v s k + 1) v ((Q 0 (3 * k) ||| Q 0 (3 * k + 1)) ||| 2 ^ b) = zt T v s (zq_put Q k 0 b) := by
  have ha := @qAS v s
  have e0 := @qS_e v s k 0
  have e1 := @qS_e v s k 1
  refine zt_ext (fun q j hq => ?_) (fun j => ?_) (fun k' c j hk' hc => ?_)
  · rw [u2_k (by omega), u2_k (by omega), zt_out hq]
  · rw [u2_k (by omega), u2_k (by omega)]
    by_cases h6 : j = 6
    · subst h6; rw [zt_6, zt_6]; unfold zq_put; rw [u2_k (by decide)]
    · by_cases h7 : 7 ≤ j ∧ j < 10
      · obtain ⟨i, rfl⟩ : ∃ i, j = 7 + i := ⟨j - 7, by omega⟩
        rw [zt_79 (by omega), zt_79 (by omega)]; unfold zq_put; rw [u2_k (by decide)]
      · rw [zt_10 (by omega), zt_10 (by omega)]
  · have e2 := @qS_e v s k' c
    by_cases hkk : k' = k
    · subst hkk
      rcases (show c = 0 ∨ c = 1 ∨ c = 2 by omega) with rfl | rfl | rfl
      · rw [u2_k (by omega)]
        by_cases hj : j = 2
        · subst hj
          rw [Nat.add_zero, u2_s, zt_vo hk]; unfold zq_put; rw [Nat.add_zero, u2_s]
        · rw [Nat.add_zero, u2_i hj]
          have a1 := zt_S (T := T) (v := v) (s := s) (Q := Q) (c := 0) (j := j) hk (by decide)
          have a2 := zt_S (T := T) (v := v) (s := s) (Q := zq_put Q k' 0 b) (c := 0) (j := j) hk (by decide)
          rw [Nat.add_zero] at a1 a2
          rw [a1, a2, if_pos rfl, if_pos rfl, if_neg hj, if_neg hj]
          unfold zq_put
          rw [u2_i (by omega)]
      · by_cases hj : j = v
        · subst hj
          rw [u2_s, zt_bk hk hv, if_pos rfl]
          unfold zq_put
          simp only [Nat.add_zero]
          rw [u2_s, u2_i (by omega)]
          apply Nat.eq_of_testBit_eq; intro i
          simp only [Nat.testBit_or]
          cases (Q 0 (3 * k')).testBit i <;> cases (Q 0 (3 * k' + 1)).testBit i <;> cases (2 ^ b).testBit i <;> rfl
        · rw [u2_i hj, u2_k (by omega), zt_S hk (by decide), zt_S hk (by decide)]
          by_cases h5 : 5 ≤ j
          · simp only [if_neg (show ¬ (1 = 0) by decide), if_pos h5]
          · simp only [if_neg (show ¬ (1 = 0) by decide), if_neg h5, if_true, if_neg hj]
            unfold zq_put; rw [u2_k (by decide)]
      · rw [u2_k (by omega), u2_k (by omega), zt_S hk (by decide), zt_S hk (by decide)]
        simp only [if_neg (show ¬ (2 = 0) by decide), if_neg (show ¬ (2 = 1) by decide)]
        unfold zq_put
        rw [u2_i (show 3 * k' + 1 ≠ 3 * k' + 0 by omega), u2_k (show (1 : Nat) ≠ 0 by decide)]
    · rw [u2_k (by omega), u2_k (by omega), zt_S hk' hc, zt_S hk' hc]
      unfold zq_put
      simp only [u2_i (show 3 * k' ≠ 3 * k + 0 by omega), u2_i (show 3 * k' + 1 ≠ 3 * k + 0 by omega), u2_i (show 3 * k' + 2 ≠ 3 * k + 0 by omega), u2_k (show (1 : Nat) ≠ 0 by decide)]
/-- what an acceptance writes -/
theorem zt_acc {k b : Nat} (hv : v < 5) (hk : k < 3) : u2 (u2 (zt T v s Q) (qS v s k + 2) v (Q 0 (3 * k + 1) ||| 2 ^ b)) (qS v s k + 1) v ((Q 0 (3 * k) ||| Q 0 (3 * k + 1)) ||| 2 ^ b) = zt T v s (zq_put Q k 1 b) := by
  have ha := @qAS v s
  have e0 := @qS_e v s k 1
  have e1 := @qS_e v s k 2
  refine zt_ext (fun q j hq => ?_) (fun j => ?_) (fun k' c j hk' hc => ?_)
  · rw [u2_k (by omega), u2_k (by omega), zt_out hq]
  · rw [u2_k (by omega), u2_k (by omega)]
    by_cases h6 : j = 6
    · subst h6; rw [zt_6, zt_6]; unfold zq_put; rw [u2_k (by decide)]
    · by_cases h7 : 7 ≤ j ∧ j < 10
      · obtain ⟨i, rfl⟩ : ∃ i, j = 7 + i := ⟨j - 7, by omega⟩
        rw [zt_79 (by omega), zt_79 (by omega)]; unfold zq_put; rw [u2_k (by decide)]
      · rw [zt_10 (by omega), zt_10 (by omega)]
  · have e2 := @qS_e v s k' c
    by_cases hkk : k' = k
    · subst hkk
      rcases (show c = 0 ∨ c = 1 ∨ c = 2 by omega) with rfl | rfl | rfl
      · rw [u2_k (by omega), u2_k (by omega), zt_S hk (by decide), zt_S hk (by decide)]
        unfold zq_put
        simp only [if_true, u2_i (show 3 * k' ≠ 3 * k' + 1 by omega), u2_i (show 3 * k' + 2 ≠ 3 * k' + 1 by omega)]
      · by_cases hj : j = v
        · subst hj
          rw [u2_s, zt_bk hk hv, if_pos rfl]
          unfold zq_put
          rw [u2_s, u2_i (by omega)]
          apply Nat.eq_of_testBit_eq; intro i
          simp only [Nat.testBit_or]
          cases (Q 0 (3 * k')).testBit i <;> cases (Q 0 (3 * k' + 1)).testBit i <;> cases (2 ^ b).testBit i <;> rfl
        · rw [u2_i hj, u2_k (by omega), zt_S hk (by decide), zt_S hk (by decide)]
          by_cases h5 : 5 ≤ j
          · simp only [if_neg (show ¬ (1 = 0) by decide), if_pos h5]
          · simp only [if_neg (show ¬ (1 = 0) by decide), if_neg h5, if_true, if_neg hj]
            unfold zq_put; rw [u2_k (by decide)]
      · rw [u2_k (by omega)]
        by_cases hj : j = v
        · subst hj
          rw [u2_s, zt_ac hk hv, if_pos rfl]
          unfold zq_put; rw [u2_s]
        · rw [u2_i hj, zt_S hk (by decide), zt_S hk (by decide)]
          by_cases h5 : 5 ≤ j
          · simp only [if_neg (show ¬ (2 = 0) by decide), if_pos h5]
          · simp only [if_neg (show ¬ (2 = 0) by decide), if_neg (show ¬ (2 = 1) by decide), if_neg h5, if_neg hj]
            unfold zq_put; rw [u2_k (by decide)]
    · rw [u2_k (by omega), u2_k (by omega), zt_S hk' hc, zt_S hk' hc]
      unfold zq_put
      simp only [u2_i (show 3 * k' ≠ 3 * k + 1 by omega), u2_i (show 3 * k' + 1 ≠ 3 * k + 1 by omega), u2_i (show 3 * k' + 2 ≠ 3 * k + 1 by omega), u2_k (show (1 : Nat) ≠ 0 by decide)]
/-- what a confirmation writes -/
theorem zt_con {k b : Nat} (hk : k < 3) : u2 (zt T v s Q) (qS v s k) 3 (Q 0 (3 * k + 2) ||| 2 ^ b) = zt T v s (zq_put Q k 2 b) := by
  have ha := @qAS v s
  have e0 := @qS_e v s k 0
  refine zt_ext (fun q j hq => ?_) (fun j => ?_) (fun k' c j hk' hc => ?_)
  · rw [u2_k (by omega), zt_out hq]
  · rw [u2_k (by omega)]
    by_cases h6 : j = 6
    · subst h6; rw [zt_6, zt_6]; unfold zq_put; rw [u2_k (by decide)]
    · by_cases h7 : 7 ≤ j ∧ j < 10
      · obtain ⟨i, rfl⟩ : ∃ i, j = 7 + i := ⟨j - 7, by omega⟩
        rw [zt_79 (by omega), zt_79 (by omega)]; unfold zq_put; rw [u2_k (by decide)]
      · rw [zt_10 (by omega), zt_10 (by omega)]
  · have e2 := @qS_e v s k' c
    by_cases hkk : k' = k ∧ c = 0 ∧ j = 3
    · obtain ⟨rfl, rfl, rfl⟩ := hkk
      simp only [Nat.add_zero]
      rw [u2_s, zt_co hk]; unfold zq_put; rw [u2_s]
    · have hne : ¬ (qS v s k' + c = qS v s k ∧ j = 3) := by omega
      rw [show u2 (zt T v s Q) (qS v s k) 3 (Q 0 (3 * k + 2) ||| 2 ^ b) (qS v s k' + c) j = zt T v s Q (qS v s k' + c) j by unfold u2; rw [if_neg hne], zt_S hk' hc, zt_S hk' hc]
      unfold zq_put
      simp only [u2_i (show 3 * k' ≠ 3 * k + 2 by omega), u2_i (show 3 * k' + 1 ≠ 3 * k + 2 by omega), u2_k (show (1 : Nat) ≠ 0 by decide)]
      by_cases hc0 : c = 0
      · rw [if_pos hc0, if_pos hc0]
        by_cases hj2 : j = 2
        · rw [if_pos hj2, if_pos hj2]
        · rw [if_neg hj2, if_neg hj2]
          by_cases hj3 : j = 3
          · rw [if_pos hj3, if_pos hj3, u2_i (by omega)]
          · rw [if_neg hj3, if_neg hj3]
      · rw [if_neg hc0, if_neg hc0]
end YZ
