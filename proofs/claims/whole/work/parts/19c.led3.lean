/-! The class: a trade with one offer. -/
def ymv (L : zq_Q) (w s b n : Nat) : zq_Q := u2 (u2 L 0 (2 * s + w) (L 0 (2 * s + w) - n)) 0 (2 * b + w) (u2 L 0 (2 * s + w) (L 0 (2 * s + w) - n) 0 (2 * b + w) + n)
theorem ymin {a b : Nat} (ha : a < 2 ^ 31) (hb : b < 2 ^ 31) : za_min (nI a) (nI b) = nI (zl_mn a b) := by
  unfold za_min zl_mn
  by_cases h : b < a
  · rw [if_pos (nI_lt h ha), if_neg (by omega)]
  · rw [if_neg (nI_nlt (by omega) hb), if_pos (by omega)]
theorem zl_mn_4 (a b c e : Nat) : zl_mn (zl_mn a b) (zl_mn c e) = zl_mn (zl_mn (zl_mn b a) c) e := by
  unfold zl_mn
  by_cases h1 : a ≤ b <;> by_cases h2 : c ≤ e <;> by_cases h3 : b ≤ a <;> simp only [h1, h2, h3, if_true, if_false] <;> (repeat' split) <;> omega
theorem zl_cross_0 {L : zq_Q} {ac o : Nat} : zl_cross L ac o 0 = L := by
  have e : ∀ (M : zq_Q) (i j : Nat) (y : Nat), M i j = y → u2 M i j y = M := fun M i j y h => by rw [← h, u2_id]
  have c1 : ∀ (M : zq_Q) (b : Nat), zl_c1 M b 0 0 = M := fun M b => by
    unfold zl_c1
    rw [e M 0 (2 * b) _ (by omega), e M 0 (2 * b + 1) _ (by omega)]
  have c2 : ∀ (M : zq_Q) (b : Nat), zl_c2 M b 0 0 = M := fun M b => by
    unfold zl_c2
    rw [e M 0 (2 * b + 1) _ (by omega), e M 0 (2 * b) _ (by omega)]
  unfold zl_cross
  rw [Nat.zero_mul, c1, c2, e L 4 o _ (by omega)]
theorem ymv_cross {L : zq_Q} {ac o n : Nat} (hb : zl_buy L ac o < 4) (hs : zl_sel L ac o < 4) (hn : n ≤ L 0 (2 * zl_sel L ac o + 1)) (hp : n * L 3 o ≤ L 0 (2 * zl_buy L ac o)) : ∀ j, j < 8 → ymv (ymv L 1 (zl_sel L ac o) (zl_buy L ac o) n) 0 (zl_buy L ac o) (zl_sel L ac o) (n * L 3 o) 0 j = zl_cross L ac o n 0 j := by
  intro j hj
  unfold zl_cross zl_c1 zl_c2 ymv
  rw [u2_k (show 0 ≠ 4 by decide)]
  generalize zl_buy L ac o = b at hb hn hp ⊢
  generalize zl_sel L ac o = s at hs hn hp ⊢
  generalize n * L 3 o = y at hp ⊢
  by_cases hbs : b = s
  · subst hbs
    by_cases h1 : j = 2 * b
    · subst h1
      simp [u2]; omega
    · by_cases h2 : j = 2 * b + 1
      · subst h2
        simp [u2]; omega
      · simp [u2, h1, h2]
  · by_cases h1 : j = 2 * b
    · subst h1
      simp [u2, show ¬ (2 * b = 2 * s) by omega, show ¬ (2 * b = 2 * s + 1) by omega]
    · by_cases h2 : j = 2 * b + 1
      · subst h2
        simp [u2, show ¬ (2 * b + 1 = 2 * s) by omega, show ¬ (b = s) by omega, show ¬ (2 * b + 1 = 2 * s) by omega]
      · by_cases h3 : j = 2 * s
        · subst h3
          simp [u2, show ¬ (2 * s = 2 * b) by omega, show ¬ (2 * s = 2 * b + 1) by omega, show ¬ (s = b) by omega]
        · by_cases h4 : j = 2 * s + 1
          · subst h4
            simp [u2, show ¬ (2 * s + 1 = 2 * b) by omega, show ¬ (s = b) by omega]
          · simp [u2, h1, h2, h3, h4]
section YM
variable {d : za_h} {x v : Nat} {T : Nat → Nat → Nat} {U : Nat → Nat → Option Nat} {u : Nat → Option Nat} {L : zq_Q} {c ac ow lim left : Nat}
theorem ymove_s (hv : v < 5) {W : Nat → Nat → Option Nat} {s b n a0 : Nat} (hs : s < 4) (hb : b < 4) (hn : n ≤ L 0 (2 * s + 1)) : zf_Ledger_move a0 (x + (qL v + 2)) (nI s) (nI b) (nI n) (zx d x (zk T v L) W) = some ((), zx d x (zk T v (ymv L 1 s b n)) W) := by
  unfold zf_Ledger_move
  rw [xls_l d x _ _ hv hs, zbs, zkl_s hs, pk_sub hn, xls_s d x _ _ hv hs, zbs, zkl_us hs, xls_l d x _ _ hv hb, zbs, zkl_s hb, nI_add, xls_s d x _ _ hv hb, zbs, zkl_us hb]
  rfl
theorem ymove_c (hv : v < 5) {W : Nat → Nat → Option Nat} {s b n a0 : Nat} (hs : s < 4) (hb : b < 4) (hn : n ≤ L 0 (2 * s)) : zf_Ledger_move a0 (x + (qL v + 1)) (nI s) (nI b) (nI n) (zx d x (zk T v L) W) = some ((), zx d x (zk T v (ymv L 0 s b n)) W) := by
  unfold zf_Ledger_move
  rw [xlc_l d x _ _ hv hs, zbs, zkl_c hs, pk_sub hn, xlc_s d x _ _ hv hs, zbs, zkl_uc hs, xlc_l d x _ _ hv hb, zbs, zkl_c hb, nI_add, xlc_s d x _ _ hv hb, zbs, zkl_uc hb]
  rfl
theorem ycan (hv : v < 5) (hB : zl_B L) (hY : yB d x u L) {o a : Nat} (ho : o < L 5 0) (ha : x + 221 ≤ a) (hcell : d.1 a = some (yof (L 1 o) (L 2 o) (L 3 o) (L 4 o))) : zf_Ledger_canServe (x + qL v) a (zx d x (zk T v L) (uk U v u)) = some (nI (!zl_poor L o).toNat, zx d x (zk T v L) (uk U v u)) := by
  obtain ⟨o1, o2, o3, o4, o5, o6⟩ := hB.2.2.2 o ho
  obtain ⟨c1, c2⟩ := zl_B_c hB o1
  have ha' : x + 191 ≤ a := by omega
  unfold zf_Ledger_canServe zf_Ledger_canServe_48
  rw [yof_c ha' hcell, zbs, ysells ha' hcell o2, zbs]
  dsimp only
  simp only [z010, z011, if_true]
  unfold zl_poor
  by_cases h0 : L 2 o = 0
  · rw [if_pos ((zn_eq0 (by omega)).mpr h0), xl_g0 d x _ _ hv, zbs, yof_0 ha' hcell, zbs, xlc_l d x _ _ hv o1, zbs, zkl_c o1, yof_2 ha' hcell, zbs, if_neg (show ¬ L 2 o = 1 by omega)]
    by_cases h1 : L 0 (2 * L 1 o) < L 3 o
    · rw [if_pos (nI_lt h1 (by omega)), decide_eq_true h1]; rfl
    · rw [if_neg (nI_nlt (by omega) (by omega)), decide_eq_false h1]; rfl
  · rw [if_neg (fun h => h0 ((zn_eq0 (by omega)).mp h)), xl_g1 d x _ _ hv, zbs, yof_0 ha' hcell, zbs, xls_l d x _ _ hv o1, zbs, zkl_s o1, if_pos (show L 2 o = 1 by omega)]
    by_cases h1 : L 0 (2 * L 1 o + 1) = 0
    · rw [if_pos ((zn_le0 (by omega)).mpr h1), h1]; rfl
    · rw [if_neg (fun h => h1 ((zn_le0 (by omega)).mp h)), beq_false_of_ne h1]; rfl
theorem zl_cross_j {o n j k : Nat} (hj : j ≠ 0) (h4 : j ≠ 4 ∨ k ≠ o) : zl_cross L ac o n j k = L j k := by
  unfold zl_cross
  rcases h4 with h | h
  · rw [u2_k h, zl_c_row hj]
  · rw [u2_i h, zl_c_row hj]
theorem zl_cross_4 {o n : Nat} : zl_cross L ac o n 4 o = L 4 o - n := by unfold zl_cross; rw [u2_s]
theorem yB_cross (hY : yB d x u L) (hB8 : L 5 0 ≤ 8) {o n a y : Nat} (ho : o < L 5 0) (hu : u o = some a) (hcu : ∀ k, k < 8 → u k ≠ some c) (ha : x + 221 ≤ a) (had : a < d.2) : yB (za_w (za_w d c (yof ac ow lim y)) a (yof (L 1 o) (L 2 o) (L 3 o) (L 4 o - n))) x u (zl_cross L ac o n) := by
  have e5 : zl_cross L ac o n 5 0 = L 5 0 := zl_cross_j (by decide) (Or.inl (by decide))
  refine ⟨fun k hk => ?_, fun k hk hk8 => ?_, hY.2.2⟩
  · rw [e5] at hk
    rw [zl_cross_j (j := 1) (by decide) (Or.inl (by decide)), zl_cross_j (j := 2) (by decide) (Or.inl (by decide)), zl_cross_j (j := 3) (by decide) (Or.inl (by decide))]
    by_cases hko : k = o
    · subst hko
      refine ⟨a, hu, ha, had, ?_⟩
      rw [zl_cross_4]
      show (if a = a then _ else _) = _
      rw [if_pos rfl]
    · obtain ⟨b, h1, h2, h3, h4⟩ := hY.1 k hk
      refine ⟨b, h1, h2, h3, ?_⟩
      have hba : b ≠ a := fun h => hko (hY.2.2 k o a (by omega) (by omega) (by rw [h1, h]) hu)
      have hbc : b ≠ c := fun h => hcu k (by omega) (by rw [h1, h])
      rw [zl_cross_j (j := 4) (by decide) (Or.inr hko)]
      show (if b = a then _ else if b = c then _ else d.1 b) = _
      rw [if_neg hba, if_neg hbc, h4]
  · rw [e5] at hk
    exact hY.2.1 k hk hk8
end YM
