/-! The mathematics of a node's ledger: registers L: L 0 (2 a + asset) balances; of the book's place k: L 1 k account, L 2 k side, L 3 k price, L 4 k amount; L 5 0: how many rest. -/
def zl_fit (L : zq_Q) (ow lim o : Nat) : Bool := !(L 2 o == ow) && (if ow = 0 then decide (L 3 o ≤ lim) else decide (lim ≤ L 3 o))
def zl_bet (L : zq_Q) (ow o : Nat) (f : Option Nat) : Bool := match f with
  | none => true
  | some g => if ow = 0 then decide (L 3 o < L 3 g) else decide (L 3 g < L 3 o)
def zl_best (L : zq_Q) (ow lim : Nat) : Nat → Nat → Option Nat → Option Nat
  | 0, _, f => f
  | n + 1, o, f => zl_best L ow lim n (o + 1) (if zl_fit L ow lim o && zl_bet L ow o f then some o else f)
theorem zl_best_s {L : zq_Q} {ow lim n o : Nat} {f : Option Nat} : zl_best L ow lim (n + 1) o f = zl_best L ow lim n (o + 1) (if zl_fit L ow lim o && zl_bet L ow o f then some o else f) := rfl
def zl_buy (L : zq_Q) (ac o : Nat) : Nat := if L 2 o = 0 then L 1 o else ac
def zl_sel (L : zq_Q) (ac o : Nat) : Nat := if L 2 o = 0 then ac else L 1 o
def zl_mn (a b : Nat) : Nat := if a ≤ b then a else b
def zl_n (L : zq_Q) (ac o left : Nat) : Nat := zl_mn (zl_mn (zl_mn (L 4 o) left) (L 0 (2 * zl_sel L ac o + 1))) (L 0 (2 * zl_buy L ac o) / L 3 o)
def zl_c1 (L : zq_Q) (b pay n : Nat) : zq_Q := u2 (u2 L 0 (2 * b) (L 0 (2 * b) - pay)) 0 (2 * b + 1) (L 0 (2 * b + 1) + n)
def zl_c2 (L : zq_Q) (s pay n : Nat) : zq_Q := u2 (u2 L 0 (2 * s + 1) (L 0 (2 * s + 1) - n)) 0 (2 * s) (L 0 (2 * s) + pay)
def zl_cross (L : zq_Q) (ac o n : Nat) : zq_Q := u2 (zl_c2 (zl_c1 L (zl_buy L ac o) (n * L 3 o) n) (zl_sel L ac o) (n * L 3 o) n) 4 o (L 4 o - n)
def zl_poor (L : zq_Q) (o : Nat) : Bool := if L 2 o = 1 then L 0 (2 * L 1 o + 1) == 0 else decide (L 0 (2 * L 1 o) < L 3 o)
/-- places o .. q - 1 have taken what stood one place on -/
def zl_sh (L : zq_Q) (o q : Nat) : zq_Q := fun j i => if 1 ≤ j ∧ j ≤ 4 ∧ o ≤ i ∧ i < q then L j (i + 1) else L j i
def zl_rem (L : zq_Q) (o : Nat) : zq_Q := zl_sh (u2 L 5 0 (L 5 0 - 1)) o (L 5 0 - 1)
def zl_trade (ac ow lim : Nat) : Nat → Nat → zq_Q → Nat × zq_Q
  | 0, left, L => (left, L)
  | f + 1, left, L => match zl_best L ow lim (L 5 0) 0 none with
    | none => (left, L)
    | some o => if left = 0 then (left, L) else
      if 0 < zl_n L ac o left then
        (if L 4 o - zl_n L ac o left = 0 then zl_trade ac ow lim f (left - zl_n L ac o left) (zl_rem (zl_cross L ac o (zl_n L ac o left)) o) else zl_trade ac ow lim f (left - zl_n L ac o left) (zl_cross L ac o (zl_n L ac o left)))
      else if zl_poor L o then zl_trade ac ow lim f left (zl_rem L o) else (left, L)
def zl_push (L : zq_Q) (ac ow lim left : Nat) : zq_Q := if 0 < left ∧ L 5 0 < 8 then u2 (u2 (u2 (u2 (u2 L 1 (L 5 0) ac) 2 (L 5 0) ow) 3 (L 5 0) lim) 4 (L 5 0) left) 5 0 (L 5 0 + 1) else L
def zl_offer (L : zq_Q) (ac ow lim am : Nat) : zq_Q := zl_push (zl_trade ac ow lim 1100 am L).2 ac ow lim (zl_trade ac ow lim 1100 am L).1
/-- a transaction: kind, from, what, other, amount -/
def zl_carry (L : zq_Q) (kd ac wh ot am : Nat) : zq_Q := if L 0 (2 * ac) = 0 then L else
  if kd = 1 then zl_offer (u2 L 0 (2 * ac) (L 0 (2 * ac) - 1)) ac wh ot am else
  if am ≤ u2 L 0 (2 * ac) (L 0 (2 * ac) - 1) 0 (2 * ac + wh) then
    (let L1 := u2 L 0 (2 * ac) (L 0 (2 * ac) - 1); let L2 := u2 L1 0 (2 * ac + wh) (L1 0 (2 * ac + wh) - am); u2 L2 0 (2 * ot + wh) (L2 0 (2 * ot + wh) + am))
  else u2 L 0 (2 * ac) (L 0 (2 * ac) - 1)
/-- the ledger's numbers are small, its offers sound -/
def zl_B (L : zq_Q) : Prop := L 0 0 + L 0 2 + L 0 4 + L 0 6 ≤ 400 ∧ L 0 1 + L 0 3 + L 0 5 + L 0 7 ≤ 80 ∧ L 5 0 ≤ 8 ∧ ∀ k, k < L 5 0 → L 1 k < 4 ∧ L 2 k < 2 ∧ 1 ≤ L 3 k ∧ L 3 k ≤ 9 ∧ 1 ≤ L 4 k ∧ L 4 k ≤ 1000
theorem zl_B_c {L : zq_Q} (h : zl_B L) {a : Nat} (ha : a < 4) : L 0 (2 * a) ≤ 400 ∧ L 0 (2 * a + 1) ≤ 80 := by
  obtain ⟨h1, h2, -⟩ := h
  rcases (show a = 0 ∨ a = 1 ∨ a = 2 ∨ a = 3 by omega) with rfl | rfl | rfl | rfl <;> simp only [Nat.reduceMul, Nat.reduceAdd] <;> omega
theorem zl_best_lt {L : zq_Q} {ow lim : Nat} : ∀ (n o : Nat) (f : Option Nat) (N : Nat), o + n = N → (∀ g, f = some g → g < N ∧ zl_fit L ow lim g = true) → ∀ g, zl_best L ow lim n o f = some g → g < N ∧ zl_fit L ow lim g = true := by
  intro n
  induction n with
  | zero => intro o f N _ hf g hg; exact hf g hg
  | succ n ih =>
    intro o f N hN hf g hg
    refine ih (o + 1) _ N (by omega) (fun g' hg' => ?_) g hg
    split at hg'
    · rename_i hc
      cases hg'
      simp only [Bool.and_eq_true] at hc
      exact ⟨by omega, hc.1⟩
    · exact hf g' hg'
theorem zl_mn_le (a b : Nat) : zl_mn a b ≤ a ∧ zl_mn a b ≤ b := by unfold zl_mn; split <;> omega
theorem zl_n_le (L : zq_Q) (ac o left : Nat) : zl_n L ac o left ≤ L 4 o ∧ zl_n L ac o left ≤ left ∧ zl_n L ac o left ≤ L 0 (2 * zl_sel L ac o + 1) ∧ zl_n L ac o left ≤ L 0 (2 * zl_buy L ac o) / L 3 o := by
  unfold zl_n
  have h1 := zl_mn_le (zl_mn (zl_mn (L 4 o) left) (L 0 (2 * zl_sel L ac o + 1))) (L 0 (2 * zl_buy L ac o) / L 3 o)
  have h2 := zl_mn_le (zl_mn (L 4 o) left) (L 0 (2 * zl_sel L ac o + 1))
  have h3 := zl_mn_le (L 4 o) left
  omega
theorem zl_pay {L : zq_Q} {ac o left : Nat} : zl_n L ac o left * L 3 o ≤ L 0 (2 * zl_buy L ac o) :=
  Nat.le_trans (Nat.mul_le_mul_right _ (zl_n_le L ac o left).2.2.2) (Nat.div_mul_le_self _ _)
/-- a trade keeps the sums -/
theorem zl_cross_sum {L : zq_Q} {b s pay n : Nat} (hb : b < 4) (hs : s < 4) (hp : pay ≤ L 0 (2 * b)) (hn : n ≤ L 0 (2 * s + 1)) :
    (fun M : zq_Q => M 0 0 + M 0 2 + M 0 4 + M 0 6 = L 0 0 + L 0 2 + L 0 4 + L 0 6 ∧ M 0 1 + M 0 3 + M 0 5 + M 0 7 = L 0 1 + L 0 3 + L 0 5 + L 0 7) (zl_c2 (zl_c1 L b pay n) s pay n) := by
  unfold zl_c2 zl_c1
  rcases (show b = 0 ∨ b = 1 ∨ b = 2 ∨ b = 3 by omega) with rfl | rfl | rfl | rfl <;>
    rcases (show s = 0 ∨ s = 1 ∨ s = 2 ∨ s = 3 by omega) with rfl | rfl | rfl | rfl <;>
    simp [u2] at hp hn ⊢ <;> omega
theorem zl_c_row {L : zq_Q} {b s pay n j : Nat} (hj : j ≠ 0) : zl_c2 (zl_c1 L b pay n) s pay n j = L j := by
  unfold zl_c2 zl_c1
  rw [u2_row hj, u2_row hj, u2_row hj, u2_row hj]
theorem zl_cross_B {L : zq_Q} (hB : zl_B L) {ac o left : Nat} (ha : ac < 4) (ho : o < L 5 0) (hl : zl_n L ac o left < L 4 o) : zl_B (zl_cross L ac o (zl_n L ac o left)) := by
  obtain ⟨o1, o2, o3, o4, o5, o6⟩ := hB.2.2.2 o ho
  have hb : zl_buy L ac o < 4 := by unfold zl_buy; split <;> omega
  have hs : zl_sel L ac o < 4 := by unfold zl_sel; split <;> omega
  have hsum := zl_cross_sum (L := L) hb hs (zl_pay (L := L) (ac := ac) (o := o) (left := left)) (zl_n_le L ac o left).2.2.1
  unfold zl_cross
  refine ⟨?_, ?_, ?_, fun k hk => ?_⟩
  · rw [u2_k (by decide), u2_k (by decide), u2_k (by decide), u2_k (by decide)]
    exact Nat.le_trans (Nat.le_of_eq hsum.1) hB.1
  · rw [u2_k (by decide), u2_k (by decide), u2_k (by decide), u2_k (by decide)]
    exact Nat.le_trans (Nat.le_of_eq hsum.2) hB.2.1
  · rw [u2_k (by decide), zl_c_row (by decide)]; exact hB.2.2.1
  · rw [u2_k (by decide), zl_c_row (by decide)] at hk
    rw [u2_k (by decide), u2_k (by decide), u2_k (by decide), zl_c_row (by decide), zl_c_row (by decide), zl_c_row (by decide)]
    obtain ⟨p1, p2, p3, p4, p5, p6⟩ := hB.2.2.2 k hk
    refine ⟨p1, p2, p3, p4, ?_⟩
    by_cases hko : k = o
    · subst hko; rw [u2_s]; omega
    · rw [u2_i hko, zl_c_row (by decide)]; exact ⟨p5, p6⟩
theorem zl_rem_B {L : zq_Q} (h1 : L 0 0 + L 0 2 + L 0 4 + L 0 6 ≤ 400) (h2 : L 0 1 + L 0 3 + L 0 5 + L 0 7 ≤ 80) (h3 : L 5 0 ≤ 8) {o : Nat} (ho : o < L 5 0) (h4 : ∀ k, k < L 5 0 → k ≠ o → L 1 k < 4 ∧ L 2 k < 2 ∧ 1 ≤ L 3 k ∧ L 3 k ≤ 9 ∧ 1 ≤ L 4 k ∧ L 4 k ≤ 1000) : zl_B (zl_rem L o) := by
  have e0 : ∀ i, zl_rem L o 0 i = L 0 i := fun i => by unfold zl_rem zl_sh; rw [if_neg (by omega), u2_k (by decide)]
  have e5 : zl_rem L o 5 0 = L 5 0 - 1 := by unfold zl_rem zl_sh; rw [if_neg (by omega), u2_s]
  refine ⟨by simp only [e0]; exact h1, by simp only [e0]; exact h2, by rw [e5]; omega, fun k hk => ?_⟩
  rw [e5] at hk
  have ej : ∀ j, 1 ≤ j → j ≤ 4 → zl_rem L o j k = L j (if o ≤ k then k + 1 else k) := by
    intro j a b
    unfold zl_rem zl_sh
    by_cases hok : o ≤ k
    · rw [if_pos ⟨a, b, hok, hk⟩, u2_k (by omega), if_pos hok]
    · rw [if_neg (by omega), u2_k (by omega), if_neg hok]
  rw [ej 1 (by decide) (by decide), ej 2 (by decide) (by decide), ej 3 (by decide) (by decide), ej 4 (by decide) (by decide)]
  exact h4 _ (by split <;> omega) (by split <;> omega)
theorem zl_remx_B {L : zq_Q} (hB : zl_B L) {o : Nat} (ho : o < L 5 0) : zl_B (zl_rem L o) := zl_rem_B hB.1 hB.2.1 hB.2.2.1 ho (fun k hk _ => hB.2.2.2 k hk)
theorem zl_crossrem_B {L : zq_Q} (hB : zl_B L) {ac o left : Nat} (ha : ac < 4) (ho : o < L 5 0) : zl_B (zl_rem (zl_cross L ac o (zl_n L ac o left)) o) := by
  obtain ⟨o1, o2, o3, o4, o5, o6⟩ := hB.2.2.2 o ho
  have hb : zl_buy L ac o < 4 := by unfold zl_buy; split <;> omega
  have hs : zl_sel L ac o < 4 := by unfold zl_sel; split <;> omega
  have hsum := zl_cross_sum (L := L) hb hs (zl_pay (L := L) (ac := ac) (o := o) (left := left)) (zl_n_le L ac o left).2.2.1
  have e5 : zl_cross L ac o (zl_n L ac o left) 5 0 = L 5 0 := by unfold zl_cross; rw [u2_k (by decide), zl_c_row (by decide)]
  refine zl_rem_B ?_ ?_ (by rw [e5]; exact hB.2.2.1) (by rw [e5]; exact ho) (fun k hk hko => ?_)
  · unfold zl_cross
    rw [u2_k (by decide), u2_k (by decide), u2_k (by decide), u2_k (by decide)]
    exact Nat.le_trans (Nat.le_of_eq hsum.1) hB.1
  · unfold zl_cross
    rw [u2_k (by decide), u2_k (by decide), u2_k (by decide), u2_k (by decide)]
    exact Nat.le_trans (Nat.le_of_eq hsum.2) hB.2.1
  · rw [e5] at hk
    unfold zl_cross
    rw [u2_k (by decide), u2_k (by decide), u2_k (by decide), u2_i hko, zl_c_row (by decide), zl_c_row (by decide), zl_c_row (by decide), zl_c_row (by decide)]
    exact hB.2.2.2 k hk
theorem zl_trade_s {ac ow lim f left : Nat} {L : zq_Q} : zl_trade ac ow lim (f + 1) left L = match zl_best L ow lim (L 5 0) 0 none with
    | none => (left, L)
    | some o => if left = 0 then (left, L) else
      if 0 < zl_n L ac o left then
        (if L 4 o - zl_n L ac o left = 0 then zl_trade ac ow lim f (left - zl_n L ac o left) (zl_rem (zl_cross L ac o (zl_n L ac o left)) o) else zl_trade ac ow lim f (left - zl_n L ac o left) (zl_cross L ac o (zl_n L ac o left)))
      else if zl_poor L o then zl_trade ac ow lim f left (zl_rem L o) else (left, L) := rfl
theorem zl_trade_B {ac ow lim : Nat} (ha : ac < 4) : ∀ (f left : Nat) (L : zq_Q), zl_B L → zl_B (zl_trade ac ow lim f left L).2 ∧ (zl_trade ac ow lim f left L).1 ≤ left := by
  intro f
  induction f with
  | zero => intro left L h; exact ⟨h, Nat.le_refl _⟩
  | succ f ih =>
    intro left L h
    rw [zl_trade_s]
    split
    · exact ⟨h, Nat.le_refl _⟩
    · rename_i o ho
      have hlt : o < L 5 0 := (zl_best_lt (L 5 0) 0 none (L 5 0) (by omega) (fun g hg => by cases hg) o ho).1
      split
      · exact ⟨h, Nat.le_refl _⟩
      · split
        · split
          · have := ih (left - zl_n L ac o left) _ (zl_crossrem_B h (left := left) ha hlt)
            exact ⟨this.1, by omega⟩
          · rename_i h1 h2 h3
            have := ih (left - zl_n L ac o left) _ (zl_cross_B h (left := left) ha hlt (by omega))
            exact ⟨this.1, by omega⟩
        · split
          · exact ih left _ (zl_remx_B h hlt)
          · exact ⟨h, Nat.le_refl _⟩
theorem zl_push_B {L : zq_Q} (h : zl_B L) {ac ow lim left : Nat} (ha : ac < 4) (hw : ow < 2) (hl : 1 ≤ lim ∧ lim ≤ 9) (hm : left ≤ 1000) : zl_B (zl_push L ac ow lim left) := by
  unfold zl_push
  split
  · rename_i hc
    refine ⟨?_, ?_, ?_, fun k hk => ?_⟩
    · simp only [u2_k (show (0 : Nat) ≠ 5 by decide), u2_k (show (0 : Nat) ≠ 4 by decide), u2_k (show (0 : Nat) ≠ 3 by decide), u2_k (show (0 : Nat) ≠ 2 by decide), u2_k (show (0 : Nat) ≠ 1 by decide)]
      exact h.1
    · simp only [u2_k (show (0 : Nat) ≠ 5 by decide), u2_k (show (0 : Nat) ≠ 4 by decide), u2_k (show (0 : Nat) ≠ 3 by decide), u2_k (show (0 : Nat) ≠ 2 by decide), u2_k (show (0 : Nat) ≠ 1 by decide)]
      exact h.2.1
    · rw [u2_s]; omega
    · rw [u2_s] at hk
      by_cases hkr : k = L 5 0
      · subst hkr
        simp only [u2_s, u2_k (show (1 : Nat) ≠ 5 by decide), u2_k (show (1 : Nat) ≠ 4 by decide), u2_k (show (1 : Nat) ≠ 3 by decide), u2_k (show (1 : Nat) ≠ 2 by decide), u2_k (show (2 : Nat) ≠ 5 by decide), u2_k (show (2 : Nat) ≠ 4 by decide), u2_k (show (2 : Nat) ≠ 3 by decide), u2_k (show (3 : Nat) ≠ 5 by decide), u2_k (show (3 : Nat) ≠ 4 by decide), u2_k (show (4 : Nat) ≠ 5 by decide)]
        omega
      · have := h.2.2.2 k (by omega)
        simp only [u2_k (show (1 : Nat) ≠ 5 by decide), u2_k (show (2 : Nat) ≠ 5 by decide), u2_k (show (3 : Nat) ≠ 5 by decide), u2_k (show (4 : Nat) ≠ 5 by decide), u2_i hkr]
        exact this
  · exact h
theorem zl_carry_B {L : zq_Q} (h : zl_B L) {kd ac wh ot am : Nat} (ha : ac < 4) (hw : wh < 2) (hk : kd = 1 → 1 ≤ ot ∧ ot ≤ 9) (hk0 : kd ≠ 1 → ot < 4) (hm : am ≤ 1000) : zl_B (zl_carry L kd ac wh ot am) := by
  have h1 : zl_B (u2 L 0 (2 * ac) (L 0 (2 * ac) - 1)) := by
    refine ⟨?_, ?_, by rw [u2_k (by decide)]; exact h.2.2.1, fun k hk => ?_⟩
    · have := h.1
      rcases (show ac = 0 ∨ ac = 1 ∨ ac = 2 ∨ ac = 3 by omega) with rfl | rfl | rfl | rfl <;> simp [u2] <;> omega
    · have := h.2.1
      rcases (show ac = 0 ∨ ac = 1 ∨ ac = 2 ∨ ac = 3 by omega) with rfl | rfl | rfl | rfl <;> simp [u2] <;> omega
    · rw [u2_k (by decide)] at hk
      rw [u2_k (by decide), u2_k (by decide), u2_k (by decide), u2_k (by decide)]
      exact h.2.2.2 k hk
  unfold zl_carry
  split
  · exact h
  · split
    · rename_i hk1
      have ht := zl_trade_B (ow := wh) (lim := ot) ha 1100 am _ h1
      exact zl_push_B ht.1 ha hw (hk hk1) (by omega)
    · rename_i hk1
      have ho := hk0 hk1
      split
      · rename_i hc
        generalize hL1 : u2 L 0 (2 * ac) (L 0 (2 * ac) - 1) = L1 at h1 hc ⊢
        refine ⟨?_, ?_, by rw [u2_k (by decide), u2_k (by decide)]; exact h1.2.2.1, fun k hk => ?_⟩
        · have := h1.1
          rcases (show wh = 0 ∨ wh = 1 by omega) with rfl | rfl <;> rcases (show ac = 0 ∨ ac = 1 ∨ ac = 2 ∨ ac = 3 by omega) with rfl | rfl | rfl | rfl <;> rcases (show ot = 0 ∨ ot = 1 ∨ ot = 2 ∨ ot = 3 by omega) with rfl | rfl | rfl | rfl <;> simp [u2] at hc ⊢ <;> omega
        · have := h1.2.1
          rcases (show wh = 0 ∨ wh = 1 by omega) with rfl | rfl <;> rcases (show ac = 0 ∨ ac = 1 ∨ ac = 2 ∨ ac = 3 by omega) with rfl | rfl | rfl | rfl <;> rcases (show ot = 0 ∨ ot = 1 ∨ ot = 2 ∨ ot = 3 by omega) with rfl | rfl | rfl | rfl <;> simp [u2] at hc ⊢ <;> omega
        · rw [u2_k (by decide), u2_k (by decide)] at hk
          rw [u2_k (by decide), u2_k (by decide), u2_k (by decide), u2_k (by decide), u2_k (by decide), u2_k (by decide), u2_k (by decide), u2_k (by decide)]
          exact h1.2.2.2 k hk
      · exact h1
