/-! The class: a trade with one offer. -/
def ymv (L : zq_Q) (w s b n : Nat) : zq_Q := u2 (u2 L 0 (2 * s + w) (L 0 (2 * s + w) - n)) 0 (2 * b + w) (u2 L 0 (2 * s + w) (L 0 (2 * s + w) - n) 0 (2 * b + w) + n)
theorem ymin {a b : Nat} (ha : a < 2 ^ 31) (hb : b < 2 ^ 31) : za_min (nI a) (nI b) = nI (zl_mn a b) := by
  unfold za_min zl_mn
  by_cases h : b < a
  · rw [if_pos (nI_lt h ha), if_neg (by omega)]
  · rw [if_neg (nI_nlt (by omega) hb), if_pos (by omega)]
theorem zl_mn_4 (a b c e : Nat) : zl_mn (zl_mn a b) (zl_mn c e) = zl_mn (zl_mn (zl_mn b a) c) e := by
  unfold zl_mn
  by_cases h1 : a ≤ b <;> by_cases h2 : c ≤ e <;> by_cases h3 : b ≤ a <;> simp only [h1, h2, h3, if_true, if_false] <;> (repeat' split) <;> omega
theorem zl_cross_0 {L : zq_Q} {ac o : Nat} : zl_cross L ac o 0 = L := by
  have e : ∀ (M : zq_Q) (i j : Nat) (y : Nat), M i j = y → u2 M i j y = M := fun M i j y h => by rw [← h, u2_id]
  have c1 : ∀ (M : zq_Q) (b : Nat), zl_c1 M b 0 0 = M := fun M b => by
    unfold zl_c1
    rw [e M 0 (2 * b) _ (by omega), e M 0 (2 * b + 1) _ (by omega)]
  have c2 : ∀ (M : zq_Q) (b : Nat), zl_c2 M b 0 0 = M := fun M b => by
    unfold zl_c2
    rw [e M 0 (2 * b + 1) _ (by omega), e M 0 (2 * b) _ (by omega)]
  unfold zl_cross
  rw [Nat.zero_mul, c1, c2, e L 4 o _ (by omega)]
theorem ymv_cross {L : zq_Q} {ac o n : Nat} (hb : zl_buy L ac o < 4) (hs : zl_sel L ac o < 4) (hn : n ≤ L 0 (2 * zl_sel L ac o + 1)) (hp : n * L 3 o ≤ L 0 (2 * zl_buy L ac o)) : ∀ j, j < 8 → ymv (ymv L 1 (zl_sel L ac o) (zl_buy L ac o) n) 0 (zl_buy L ac o) (zl_sel L ac o) (n * L 3 o) 0 j = zl_cross L ac o n 0 j := by
  intro j hj
  unfold zl_cross zl_c1 zl_c2 ymv
  rw [u2_k (show 0 ≠ 4 by decide)]
  generalize zl_buy L ac o = b at hb hn hp ⊢
  generalize zl_sel L ac o = s at hs hn hp ⊢
  generalize n * L 3 o = y at hp ⊢
  by_cases hbs : b = s
  · subst hbs
    by_cases h1 : j = 2 * b
    · subst h1
      simp [u2] <;> omega
    · by_cases h2 : j = 2 * b + 1
      · subst h2
        simp [u2] <;> omega
      · simp [u2, h1, h2]
  · by_cases h1 : j = 2 * b
    · subst h1
      simp [u2, show ¬ (2 * b = 2 * s) by omega, show ¬ (2 * b = 2 * s + 1) by omega]
    · by_cases h2 : j = 2 * b + 1
      · subst h2
        simp [u2, show ¬ (2 * b + 1 = 2 * s) by omega, show ¬ (b = s) by omega, show ¬ (2 * b = 2 * s) by omega]
      · by_cases h3 : j = 2 * s
        · subst h3
          simp [u2, show ¬ (2 * s = 2 * b) by omega, show ¬ (2 * s = 2 * b + 1) by omega, show ¬ (s = b) by omega]
        · by_cases h4 : j = 2 * s + 1
          · subst h4
            simp [u2, show ¬ (2 * s + 1 = 2 * b) by omega, show ¬ (s = b) by omega, show ¬ (2 * s = 2 * b) by omega]
          · simp [u2, h1, h2, h3, h4]
section YM
variable {d : za_h} {x v : Nat} {T : Nat → Nat → Nat} {U : Nat → Nat → Option Nat} {u : Nat → Option Nat} {L : zq_Q} {c ac ow lim left : Nat}
theorem ymove_s (hv : v < 5) {W : Nat → Nat → Option Nat} {s b n a0 : Nat} (hs : s < 4) (hb : b < 4) (hn : n ≤ L 0 (2 * s + 1)) : zf_Ledger_move a0 (x + (qL v + 2)) (nI s) (nI b) (nI n) (zx d x (zk T v L) W) = some ((), zx d x (zk T v (ymv L 1 s b n)) W) := by
  unfold zf_Ledger_move
  rw [xls_l d x _ _ hv hs, zbs, zkl_s hs, pk_sub hn, xls_s d x _ _ hv hs, zbs, zkl_us hs, xls_l d x _ _ hv hb, zbs, zkl_s hb, nI_add, xls_s d x _ _ hv hb, zbs, zkl_us hb]
  rfl
theorem ymove_c (hv : v < 5) {W : Nat → Nat → Option Nat} {s b n a0 : Nat} (hs : s < 4) (hb : b < 4) (hn : n ≤ L 0 (2 * s)) : zf_Ledger_move a0 (x + (qL v + 1)) (nI s) (nI b) (nI n) (zx d x (zk T v L) W) = some ((), zx d x (zk T v (ymv L 0 s b n)) W) := by
  unfold zf_Ledger_move
  rw [xlc_l d x _ _ hv hs, zbs, zkl_c hs, pk_sub hn, xlc_s d x _ _ hv hs, zbs, zkl_uc hs, xlc_l d x _ _ hv hb, zbs, zkl_c hb, nI_add, xlc_s d x _ _ hv hb, zbs, zkl_uc hb]
  rfl
theorem ycan (hv : v < 5) (hB : zl_B L) (hY : yB d x u L) {o a : Nat} (ho : o < L 5 0) (ha : x + 221 ≤ a) (hcell : d.1 a = some (yof (L 1 o) (L 2 o) (L 3 o) (L 4 o))) : zf_Ledger_canServe (x + qL v) a (zx d x (zk T v L) (uk U v u)) = some (nI (!zl_poor L o).toNat, zx d x (zk T v L) (uk U v u)) := by
  obtain ⟨o1, o2, o3, o4, o5, o6⟩ := hB.2.2.2 o ho
  obtain ⟨c1, c2⟩ := zl_B_c hB o1
  have ha' : x + 191 ≤ a := by omega
  unfold zf_Ledger_canServe zf_Ledger_canServe_48
  rw [yof_c ha' hcell, zbs, ysells ha' hcell o2, zbs]
  dsimp only
  simp only [z010, z011, if_true]
  unfold zl_poor
  by_cases h0 : L 2 o = 0
  · rw [if_pos ((zn_eq0 (by omega)).mpr h0), xl_g0 d x _ _ hv, zbs, yof_0 ha' hcell, zbs, xlc_l d x _ _ hv o1, zbs, zkl_c o1, yof_2 ha' hcell, zbs, if_neg (show ¬ L 2 o = 1 by omega)]
    by_cases h1 : L 0 (2 * L 1 o) < L 3 o
    · rw [if_pos (nI_lt h1 (by omega)), decide_eq_true h1]; rfl
    · rw [if_neg (nI_nlt (by omega) (by omega)), decide_eq_false h1]; rfl
  · rw [if_neg (fun h => h0 ((zn_eq0 (by omega)).mp h)), xl_g1 d x _ _ hv, zbs, yof_0 ha' hcell, zbs, xls_l d x _ _ hv o1, zbs, zkl_s o1, if_pos (show L 2 o = 1 by omega)]
    by_cases h1 : L 0 (2 * L 1 o + 1) = 0
    · rw [if_pos ((zn_le0 (by omega)).mpr h1), h1]; rfl
    · rw [if_neg (fun h => h1 ((zn_le0 (by omega)).mp h)), beq_false_of_ne h1]; rfl
theorem zl_cross_j {o n j k : Nat} (hj : j ≠ 0) (h4 : j ≠ 4 ∨ k ≠ o) : zl_cross L ac o n j k = L j k := by
  unfold zl_cross
  rcases h4 with h | h
  · rw [u2_k h, zl_c_row hj]
  · rw [u2_i h, zl_c_row hj]
theorem zl_cross_4 {o n : Nat} : zl_cross L ac o n 4 o = L 4 o - n := by unfold zl_cross; rw [u2_s]
theorem yB_cross (hY : yB d x u L) (hB8 : L 5 0 ≤ 8) {o n a y : Nat} (ho : o < L 5 0) (hu : u o = some a) (hcu : ∀ k, k < 8 → u k ≠ some c) (ha : x + 221 ≤ a) (had : a < d.2) : yB (za_w (za_w d c (yof ac ow lim y)) a (yof (L 1 o) (L 2 o) (L 3 o) (L 4 o - n))) x u (zl_cross L ac o n) := by
  have e5 : zl_cross L ac o n 5 0 = L 5 0 := zl_cross_j (by decide) (Or.inl (by decide))
  refine ⟨fun k hk => ?_, fun k hk hk8 => ?_, hY.2.2⟩
  · rw [e5] at hk
    rw [zl_cross_j (j := 1) (by decide) (Or.inl (by decide)), zl_cross_j (j := 2) (by decide) (Or.inl (by decide)), zl_cross_j (j := 3) (by decide) (Or.inl (by decide))]
    by_cases hko : k = o
    · subst hko
      refine ⟨a, hu, ha, had, ?_⟩
      rw [zl_cross_4]
      show (if a = a then _ else _) = _
      rw [if_pos rfl]
    · obtain ⟨b, h1, h2, h3, h4⟩ := hY.1 k hk
      refine ⟨b, h1, h2, h3, ?_⟩
      have hba : b ≠ a := fun h => hko (hY.2.2 k o a (by omega) (by omega) (by rw [h1, h]) hu)
      have hbc : b ≠ c := fun h => hcu k (by omega) (by rw [h1, h])
      rw [zl_cross_j (j := 4) (by decide) (Or.inr hko)]
      show (if b = a then _ else if b = c then _ else d.1 b) = _
      rw [if_neg hba, if_neg hbc, h4]
  · rw [e5] at hk
    exact hY.2.1 k hk hk8
/-- what a trade's step leaves -/
def ynx (L : zq_Q) (ac o n : Nat) : zq_Q := if n = 0 ∨ L 4 o - n = 0 then zl_rem (zl_cross L ac o n) o else zl_cross L ac o n
theorem y118 (hv : v < 5) (hB : zl_B L) (hY : yB d x u L) (hc : x + 221 ≤ c) (hcd : c < d.2) (hcc : d.1 c = some (yof ac ow lim left)) (hac : ac < 4) {o a n : Nat} (ho : o < L 5 0) (hu : u o = some a) (ha : x + 221 ≤ a) (had : a < d.2) (hcell : d.1 a = some (yof (L 1 o) (L 2 o) (L 3 o) (L 4 o))) (hcu : ∀ k, k < 8 → u k ≠ some c) (hn : n = zl_n L ac o left) (hleft : left ≤ 1000) :
    ∃ d' u', zf_Ledger_tradeWith_118 (x + qL v) c (nI o) a (nI (zl_sel L ac o)) (nI (zl_buy L ac o)) (nI n) (zx d x (zk T v L) (uk U v u)) = some (nI 1, zx d' x (zk T v (ynx L ac o n)) (uk U v u')) ∧ yB d' x u' (ynx L ac o n) ∧ d'.1 c = some (yof ac ow lim (left - n)) ∧ d'.2 = d.2 ∧ (∀ b, b ≠ c → (∀ k, k < 8 → u k ≠ some b) → d'.1 b = d.1 b) ∧ (∀ k b, k < 8 → u' k = some b → ∃ k', k' < 8 ∧ u k' = some b) := by
  obtain ⟨o1, o2, o3, o4, o5, o6⟩ := hB.2.2.2 o ho
  have h8 := hB.2.2.1
  have hb : zl_buy L ac o < 4 := by unfold zl_buy; split <;> omega
  have hs : zl_sel L ac o < 4 := by unfold zl_sel; split <;> omega
  obtain ⟨n1, n2, n3, n4⟩ := zl_n_le L ac o left
  have hpay := zl_pay (L := L) (ac := ac) (o := o) (left := left)
  rw [← hn] at n1 n2 n3 n4 hpay
  have hac2 : a ≠ c := fun h => hcu o (by omega) (by rw [hu, h])
  have hc' : x + 191 ≤ c := by omega
  have ha' : x + 191 ≤ a := by omega
  have ea : (za_w d c (yof ac ow lim (left - n))).1 a = some (yof (L 1 o) (L 2 o) (L 3 o) (L 4 o)) := by
    show (if a = c then _ else d.1 a) = _
    rw [if_neg hac2, hcell]
  have ea2 : (za_w (za_w d c (yof ac ow lim (left - n))) a (yof (L 1 o) (L 2 o) (L 3 o) (L 4 o - n))).1 a = some (yof (L 1 o) (L 2 o) (L 3 o) (L 4 o - n)) := by
    show (if a = a then _ else _) = _
    rw [if_pos rfl]
  have hYc := yB_cross (ac := ac) (ow := ow) (lim := lim) (n := n) (y := left - n) hY h8 ho hu hcu ha had
  have hzk : zk T v (ymv (ymv L 1 (zl_sel L ac o) (zl_buy L ac o) n) 0 (zl_buy L ac o) (zl_sel L ac o) (n * L 3 o)) = zk T v (zl_cross L ac o n) := by
    refine zk_ext (ymv_cross hb hs n3 hpay) ?_
    rw [zl_cross_j (by decide) (Or.inl (by decide))]
    unfold ymv
    rw [u2_k (by decide), u2_k (by decide), u2_k (by decide), u2_k (by decide)]
  have hm2 : n * L 3 o ≤ ymv L 1 (zl_sel L ac o) (zl_buy L ac o) n 0 (2 * zl_buy L ac o) := by
    unfold ymv
    rw [u2_i (by omega), u2_i (by omega)]
    exact hpay
  generalize hD : za_w (za_w d c (yof ac ow lim (left - n))) a (yof (L 1 o) (L 2 o) (L 3 o) (L 4 o - n)) = D at ea2 hYc
  have hDc : D.1 c = some (yof ac ow lim (left - n)) := by
    rw [← hD]
    show (if c = a then _ else if c = c then _ else _) = _
    rw [if_neg (fun h => hac2 h.symm), if_pos rfl]
  have hD2 : D.2 = d.2 := by rw [← hD]; rfl
  have hDf : ∀ b, b ≠ c → (∀ k, k < 8 → u k ≠ some b) → D.1 b = d.1 b := by
    intro b hbc hbu
    rw [← hD]
    show (if b = a then _ else if b = c then _ else d.1 b) = _
    rw [if_neg (fun h => hbu o (by omega) (by rw [hu, h])), if_neg hbc]
  have e1 : zf_Ledger_tradeWith_118 (x + qL v) c (nI o) a (nI (zl_sel L ac o)) (nI (zl_buy L ac o)) (nI n) (zx d x (zk T v L) (uk U v u)) = if n = 0 ∨ L 4 o - n = 0 then zf_Ledger_tradeWith_185 (x + qL v) (nI o) (zx D x (zk T v (zl_cross L ac o n)) (uk U v u)) else some (nI 1, zx D x (zk T v (zl_cross L ac o n)) (uk U v u)) := by
    unfold zf_Ledger_tradeWith_118
    rw [yof_3 hc' hcc, zbs, pk_sub n2, yof_p hc' hcc, zbs, yof_3 ha' ea, zbs, pk_sub n1, yof_p ha' ea, zbs, hD, xl_g1 _ x _ _ hv, zbs, xl_c _ x _ _ hv, zbs, ymove_s hv hs hb n3, zbs]
    dsimp only
    rw [xl_g0 _ x _ _ hv, zbs, yof_2 ha' ea2, zbs, xl_c _ x _ _ hv, zbs, pk_mul, ymove_c hv hb hs hm2, zbs, hzk]
    dsimp only
    rw [yof_3 ha' ea2, zbs]
    unfold zf_Ledger_tradeWith_190
    by_cases hn0 : n = 0
    · rw [if_pos ((zn_eq0 (by omega)).mpr hn0), if_pos (Or.inl hn0)]
    · rw [if_neg (fun h => hn0 ((zn_eq0 (by omega)).mp h))]
      by_cases hl0 : L 4 o - n = 0
      · rw [if_pos ((zn_eq0 (by omega)).mpr hl0), if_pos (Or.inr hl0)]
      · rw [if_neg (fun h => hl0 ((zn_eq0 (by omega)).mp h)), if_neg (by omega)]
  rw [e1]
  unfold ynx
  by_cases hcs : n = 0 ∨ L 4 o - n = 0
  · rw [if_pos hcs, if_pos hcs]
    have e5 : zl_cross L ac o n 5 0 = L 5 0 := zl_cross_j (by decide) (Or.inl (by decide))
    refine ⟨D, ush u o (L 5 0 - 1), ?_, ?_, hDc, hD2, hDf, ?_⟩
    · unfold zf_Ledger_tradeWith_185 zf_Ledger_tradeWith_190
      rw [xl_c _ x _ _ hv, zbs, ytake hv (by rw [e5]; exact h8) hYc (by rw [e5]; exact ho), zbs, e5]
    · have := yB_rem (by rw [e5]; exact h8) hYc (o := o) (by rw [e5]; exact ho)
      rw [e5] at this
      exact this
    · intro k b hk h
      unfold ush at h
      by_cases c1 : k = L 5 0 - 1
      · rw [if_pos c1] at h; cases h
      · rw [if_neg c1] at h
        by_cases c2 : o ≤ k ∧ k < L 5 0 - 1
        · rw [if_pos c2] at h; exact ⟨k + 1, by omega, h⟩
        · rw [if_neg c2] at h; exact ⟨k, hk, h⟩
  · rw [if_neg hcs, if_neg hcs]
    exact ⟨D, u, rfl, hYc, hDc, hD2, hDf, fun k b hk h => ⟨k, hk, h⟩⟩
theorem ytrade (hv : v < 5) (hB : zl_B L) (hY : yB d x u L) (hc : x + 221 ≤ c) (hcd : c < d.2) (hcc : d.1 c = some (yof ac ow lim left)) (hac : ac < 4) (how : ow < 2) {o : Nat} (ho : o < L 5 0) (hfit : L 2 o ≠ ow) (hcu : ∀ k, k < 8 → u k ≠ some c) (hleft : left ≤ 1000) :
    (zl_n L ac o left = 0 ∧ zl_poor L o = false → zf_Ledger_tradeWith (x + qL v) c (nI o) (zx d x (zk T v L) (uk U v u)) = some (nI 0, zx d x (zk T v L) (uk U v u))) ∧
    (¬ (zl_n L ac o left = 0 ∧ zl_poor L o = false) → ∃ d' u', zf_Ledger_tradeWith (x + qL v) c (nI o) (zx d x (zk T v L) (uk U v u)) = some (nI 1, zx d' x (zk T v (ynx L ac o (zl_n L ac o left))) (uk U v u')) ∧ yB d' x u' (ynx L ac o (zl_n L ac o left)) ∧ d'.1 c = some (yof ac ow lim (left - zl_n L ac o left)) ∧ d'.2 = d.2 ∧ (∀ b, b ≠ c → (∀ k, k < 8 → u k ≠ some b) → d'.1 b = d.1 b) ∧ (∀ k b, k < 8 → u' k = some b → ∃ k', k' < 8 ∧ u k' = some b)) := by
  obtain ⟨o1, o2, o3, o4, o5, o6⟩ := hB.2.2.2 o ho
  have h8 := hB.2.2.1
  obtain ⟨a, hu, ha, had, hcell⟩ := hY.1 o ho
  have hb : zl_buy L ac o < 4 := by unfold zl_buy; split <;> omega
  have hs : zl_sel L ac o < 4 := by unfold zl_sel; split <;> omega
  obtain ⟨cb1, cb2⟩ := zl_B_c hB hb
  obtain ⟨cs1, cs2⟩ := zl_B_c hB hs
  have hc' : x + 191 ≤ c := by omega
  have ha' : x + 191 ≤ a := by omega
  have hdiv : L 0 (2 * zl_buy L ac o) / L 3 o ≤ L 0 (2 * zl_buy L ac o) := Nat.div_le_self _ _
  have hm1 : zl_mn left (L 4 o) < 2 ^ 31 := by have := zl_mn_le left (L 4 o); omega
  have hm2 : zl_mn (L 0 (2 * zl_sel L ac o + 1)) (L 0 (2 * zl_buy L ac o) / L 3 o) < 2 ^ 31 := by have := zl_mn_le (L 0 (2 * zl_sel L ac o + 1)) (L 0 (2 * zl_buy L ac o) / L 3 o); omega
  have hnlt : zl_n L ac o left < 2 ^ 31 := by have := zl_n_le L ac o left; omega
  have hmin : za_min (za_min (nI left) (nI (L 4 o))) (za_min (nI (L 0 (2 * zl_sel L ac o + 1))) (nI (L 0 (2 * zl_buy L ac o)) / nI (L 3 o))) = nI (zl_n L ac o left) := by
    rw [pk_div (by omega) (by omega) (by omega), ymin (by omega) (by omega), ymin (by omega) (by omega), ymin hm1 hm2, zl_mn_4]
    rfl
  have e59 : zf_Ledger_tradeWith_59 (x + qL v) c (nI o) a (nI (zl_sel L ac o)) (nI (zl_buy L ac o)) (zx d x (zk T v L) (uk U v u)) = if zl_n L ac o left = 0 ∧ zl_poor L o = false then some (nI 0, zx d x (zk T v L) (uk U v u)) else zf_Ledger_tradeWith_118 (x + qL v) c (nI o) a (nI (zl_sel L ac o)) (nI (zl_buy L ac o)) (nI (zl_n L ac o left)) (zx d x (zk T v L) (uk U v u)) := by
    unfold zf_Ledger_tradeWith_59
    rw [xl_g0 _ x _ _ hv, zbs, xlc_l _ x _ _ hv hb, zbs, zkl_c hb, yof_2 ha' hcell, zbs, if_neg (nI_ne0 (by omega) (by omega)), yof_3 hc' hcc, zbs, yof_3 ha' hcell, zbs, xl_g1 _ x _ _ hv, zbs, xls_l _ x _ _ hv hs, zbs, zkl_s hs, hmin]
    by_cases hn0 : zl_n L ac o left = 0
    · rw [if_pos ((zn_eq0 hnlt).mpr hn0), xl_c _ x _ _ hv, zbs, ycan hv hB hY ho ha hcell, zbs]
      dsimp only
      cases hp : zl_poor L o
      · rw [if_neg (by decide), if_pos ⟨hn0, rfl⟩]
      · rw [if_pos (by decide), if_neg (by simp)]
    · rw [if_neg (fun h => hn0 ((zn_eq0 hnlt).mp h)), if_neg (fun h => hn0 h.1)]
  have e0 : zf_Ledger_tradeWith (x + qL v) c (nI o) (zx d x (zk T v L) (uk U v u)) = zf_Ledger_tradeWith_59 (x + qL v) c (nI o) a (nI (zl_sel L ac o)) (nI (zl_buy L ac o)) (zx d x (zk T v L) (uk U v u)) := by
    unfold zf_Ledger_tradeWith zf_Ledger_tradeWith_39
    rw [xl_g2 _ x _ _ hv, zbs, xbk_l _ x _ _ hv (show o < 8 by omega), zbs, uk_s, hu]
    dsimp only
    rw [yof_2 ha' hcell, zbs, if_pos (nI_le o3 (by omega)), yof_c hc' hcc, zbs, ysells hc' hcc how, zbs]
    dsimp only
    rw [yof_0 ha' hcell, zbs, yof_0 hc' hcc, zbs, yof_c hc' hcc, zbs]
    unfold zl_sel zl_buy
    by_cases hw : ow = 0
    · rw [if_pos ((zn_eq0 (by omega)).mpr hw), if_neg (show ¬ L 2 o = 0 by omega), if_neg (show ¬ L 2 o = 0 by omega)]
      rw [ysells hc' hcc how, zbs]
      try dsimp only
      rw [if_pos ((zn_eq0 (by omega)).mpr hw), yof_0 hc' hcc, zbs]
    · rw [if_neg (fun h => hw ((zn_eq0 (by omega)).mp h)), if_pos (show L 2 o = 0 by omega), if_pos (show L 2 o = 0 by omega)]
      rw [ysells hc' hcc how, zbs, zbs]
      try dsimp only
      rw [if_neg (fun h => hw ((zn_eq0 (by omega)).mp h)), yof_0 ha' hcell, zbs]
  rw [e0, e59]
  refine ⟨fun h => by rw [if_pos h], fun h => ?_⟩
  rw [if_neg h]
  exact y118 hv hB hY hc hcd hcc hac ho hu ha had hcell hcu rfl hleft
end YM
