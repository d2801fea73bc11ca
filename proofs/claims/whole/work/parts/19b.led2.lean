/-! The class: the best offer, taking one out. -/
def yB (d : za_h) (x : Nat) (u : Nat → Option Nat) (L : zq_Q) : Prop :=
  (∀ k, k < L 5 0 → ∃ a, u k = some a ∧ x + 221 ≤ a ∧ a < d.2 ∧ d.1 a = some (yof (L 1 k) (L 2 k) (L 3 k) (L 4 k))) ∧ (∀ k, L 5 0 ≤ k → k < 8 → u k = none) ∧ (∀ i j a, i < 8 → j < 8 → u i = some a → u j = some a → i = j)
theorem zk_ext {T : Nat → Nat → Nat} {v : Nat} {L L' : zq_Q} (h0 : ∀ j, j < 8 → L 0 j = L' 0 j) (h5 : L 5 0 = L' 5 0) : zk T v L = zk T v L' := by
  funext q j
  unfold zk
  rw [h5]
  by_cases h1 : q = qL v + 1 ∧ j < 4
  · rw [if_pos h1, if_pos h1, h0 _ (by omega)]
  · rw [if_neg h1, if_neg h1]
    by_cases h2 : q = qL v + 2 ∧ j < 4
    · rw [if_pos h2, if_pos h2, h0 _ (by omega)]
    · rw [if_neg h2, if_neg h2]
def ypb (L : zq_Q) (g : Option Nat) : Int32 × Int32 := match g with
  | none => (-1, nI 0)
  | some o => (nI o, nI (L 3 o))
section YL
variable {d : za_h} {x v : Nat} {T : Nat → Nat → Nat} {U : Nat → Nat → Option Nat} {u : Nat → Option Nat} {L : zq_Q} {c ac ow lim left : Nat}
theorem ybest7 (hv : v < 5) (hB : zl_B L) (hY : yB d x u L) (hc : x + 221 ≤ c) (hcc : d.1 c = some (yof ac ow lim left)) (how : ow < 2) (hlim : lim ≤ 9) : ∀ (n k f : Nat) (g : Option Nat), k + n = 8 → n < f → (∀ o, g = some o → o < L 5 0) →
    zf_Ledger_bestFor_7 f (x + qL v) c (ypb L g).1 (ypb L g).2 (nI k) (zx d x (zk T v L) (uk U v u)) = some ((ypb L (zl_best L ow lim (L 5 0 - k) k g)).1, zx d x (zk T v L) (uk U v u)) := by
  have h8 := hB.2.2.1
  intro n
  induction n with
  | zero =>
    intro k f g hk hf hg
    obtain ⟨f, rfl⟩ : ∃ q, f = q + 1 := ⟨f - 1, by omega⟩
    obtain rfl : k = 8 := by omega
    rw [zf_Ledger_bestFor_7, if_pos (Int32.le_refl _), show L 5 0 - 8 = 0 by omega]
    rfl
  | succ n ih =>
    intro k f g hk hf hg
    obtain ⟨f, rfl⟩ : ∃ q, f = q + 1 := ⟨f - 1, by omega⟩
    have hk8 : k < 8 := by omega
    have e91 : ∀ g', (∀ o, g' = some o → o < L 5 0) → zf_Ledger_bestFor_91 (zf_Ledger_bestFor_7 f) (x + qL v) c (ypb L g').1 (ypb L g').2 (nI k) (zx d x (zk T v L) (uk U v u)) = some ((ypb L (zl_best L ow lim (L 5 0 - (k + 1)) (k + 1) g')).1, zx d x (zk T v L) (uk U v u)) := by
      intro g' hg'
      unfold zf_Ledger_bestFor_91
      rw [nI_add]
      exact ih (k + 1) f g' (by omega) (by omega) hg'
    rw [zf_Ledger_bestFor_7, if_neg (nI_ge hk8 (by decide)), xl_g2 d x _ _ hv, zbs, xbk_l d x _ _ hv hk8, zbs, uk_s]
    have e56 : ∀ o5, zf_Ledger_bestFor_56 (zf_Ledger_bestFor_7 f) (x + qL v) c (ypb L g).1 (ypb L g).2 (nI k) o5 (zx d x (zk T v L) (uk U v u)) = some ((ypb L (zl_best L ow lim (L 5 0 - (k + 1)) (k + 1) g)).1, zx d x (zk T v L) (uk U v u)) := by
      intro o5
      unfold zf_Ledger_bestFor_56 zf_Ledger_bestFor_57
      rw [if_pos (by decide)]
      exact e91 g hg
    by_cases hkL : k < L 5 0
    · obtain ⟨a, hu, ha, had, hcell⟩ := hY.1 k hkL
      obtain ⟨o1, o2, o3, o4, o5, o6⟩ := hB.2.2.2 k hkL
      have ha' : x + 191 ≤ a := by omega
      have hc' : x + 191 ≤ c := by omega
      rw [hu, show L 5 0 - k = (L 5 0 - (k + 1)) + 1 by omega, zl_best_s]
      dsimp only
      rw [yof_1 ha' hcell, zbs, yof_1 hc' hcc, zbs]
      by_cases hside : L 2 k = ow
      · rw [if_pos (by rw [hside]), e56]
        have : zl_fit L ow lim k = false := by unfold zl_fit; rw [hside]; simp
        rw [this]
        rfl
      · rw [if_neg (fun h => hside ((nI_eq (by omega) (by omega)).mp h)), yof_2 ha' hcell, zbs, yof_c hc' hcc, zbs, yagrees hc' hcc how (by omega) (show L 3 k < 2 ^ 31 by omega), zbs]
        dsimp only
        have hfit : zl_fit L ow lim k = if ow = 0 then decide (L 3 k ≤ lim) else decide (lim ≤ L 3 k) := by
          unfold zl_fit; rw [beq_false_of_ne hside]; rfl
        rw [← hfit]
        cases hf1 : zl_fit L ow lim k
        · rw [if_pos (by decide), e56]; rfl
        · rw [if_neg (by decide)]
          unfold zf_Ledger_bestFor_57
          rw [if_neg (by decide), Bool.true_and]
          have e82 : zf_Ledger_bestFor_82 (zf_Ledger_bestFor_7 f) (x + qL v) c (nI k) (some a) (zx d x (zk T v L) (uk U v u)) = some ((ypb L (zl_best L ow lim (L 5 0 - (k + 1)) (k + 1) (some k))).1, zx d x (zk T v L) (uk U v u)) := by
            unfold zf_Ledger_bestFor_82
            rw [zbs, yof_2 ha' hcell, zbs]
            exact e91 (some k) (fun o ho => by cases ho; exact hkL)
          cases g with
          | none =>
            rw [show (ypb L none).1 = (-1 : Int32) from rfl, if_pos rfl, e82]
            rfl
          | some o =>
            have ho := hg o rfl
            obtain ⟨p1, p2, p3, p4, p5, p6⟩ := hB.2.2.2 o ho
            have hne : ¬ ((ypb L (some o)).1 = (-1 : Int32)) := by
              intro h
              have h1 : (nI o).toInt = (-1 : Int32).toInt := congrArg Int32.toInt h
              rw [nI_toInt (by omega)] at h1
              have h2 : (-1 : Int32).toInt = -1 := by decide
              omega
            rw [if_neg hne, zbs, yof_2 ha' hcell, zbs, yof_c hc' hcc, zbs]
            show ((zf_Offer_prefers c (nI (L 3 k)) (nI (L 3 o)) (zx d x (zk T v L) (uk U v u))).bind _) = _
            rw [yprefers hc' hcc how (show L 3 k < 2 ^ 31 by omega) (show L 3 o < 2 ^ 31 by omega), zbs]
            dsimp only
            have hbet : zl_bet L ow k (some o) = if ow = 0 then decide (L 3 k < L 3 o) else decide (L 3 o < L 3 k) := rfl
            rw [← hbet]
            cases zl_bet L ow k (some o)
            · rw [if_pos (by decide), e91 (some o) hg]; rfl
            · rw [if_neg (by decide), e82]; rfl
    · rw [hY.2.1 k (by omega) hk8]
      dsimp only
      rw [e56, show L 5 0 - k = 0 by omega, show L 5 0 - (k + 1) = 0 by omega]
      rfl
theorem ybest (hv : v < 5) (hB : zl_B L) (hY : yB d x u L) (hc : x + 221 ≤ c) (hcc : d.1 c = some (yof ac ow lim left)) (how : ow < 2) (hlim : lim ≤ 9) : zf_Ledger_bestFor (x + qL v) c (zx d x (zk T v L) (uk U v u)) = some ((ypb L (zl_best L ow lim (L 5 0) 0 none)).1, zx d x (zk T v L) (uk U v u)) := by
  unfold zf_Ledger_bestFor
  exact ybest7 hv hB hY hc hcc how hlim 8 0 9 none (by decide) (by decide) (fun o h => by cases h)
/-- a book without its offer o -/
def ush (u : Nat → Option Nat) (o r : Nat) : Nat → Option Nat := fun j => if j = r then none else if o ≤ j ∧ j < r then u (j + 1) else u j
def ush1 (u : Nat → Option Nat) (o i : Nat) : Nat → Option Nat := fun j => if o ≤ j ∧ j < i then u (j + 1) else u j
theorem ytake12 (hv : v < 5) (h8 : L 5 0 ≤ 8) (hY : yB d x u L) {o : Nat} (ho : o < L 5 0) {M : zq_Q} (hM : M 5 0 = L 5 0 - 1) : ∀ (n i f : Nat), i + n = L 5 0 - 1 → o ≤ i → n < f →
    zf_Ledger_takeOut_12 f (x + qL v) (nI i) (zx d x (zk T v M) (uk U v (ush1 u o i))) = some ((), zx d x (zk T v M) (uk U v (ush u o (L 5 0 - 1)))) := by
  intro n
  induction n with
  | zero =>
    intro i f hi hoi hf
    obtain ⟨f, rfl⟩ : ∃ q, f = q + 1 := ⟨f - 1, by omega⟩
    obtain rfl : i = L 5 0 - 1 := by omega
    rw [zf_Ledger_takeOut_12, xl_g3 d x _ _ hv, zbs, zkl_3, hM, if_pos (Int32.le_refl _), xl_g2 d x _ _ hv, zbs, zbs]
    rw [zx_sq (q := qL v + 3) (n := 8) (qL_lt (c := 3) hv (by decide)) (fun U => zc_Lb hv) (by omega) (by decide) (fun a h => by cases h), zbs, uk_u]
    have : u1 (ush1 u o (L 5 0 - 1)) (L 5 0 - 1) none = ush u o (L 5 0 - 1) := by
      funext j; unfold u1 ush1 ush; rfl
    rw [this]
  | succ n ih =>
    intro i f hi hoi hf
    obtain ⟨f, rfl⟩ : ∃ q, f = q + 1 := ⟨f - 1, by omega⟩
    obtain ⟨a, hu, ha, had, hcell⟩ := hY.1 (i + 1) (by omega)
    have e1 : ush1 u o i (i + 1) = u (i + 1) := by unfold ush1; rw [if_neg (by omega)]
    rw [zf_Ledger_takeOut_12, xl_g3 d x _ _ hv, zbs, zkl_3, hM, if_neg (nI_ge (by omega) (by omega)), xl_g2 d x _ _ hv, zbs, zbs, nI_add, xbk_l d x _ _ hv (show i + 1 < 8 by omega), zbs, uk_s, e1]
    rw [zx_sq (q := qL v + 3) (n := 8) (qL_lt (c := 3) hv (by decide)) (fun U => zc_Lb hv) (by omega) (by decide) (fun b h => by rw [hu] at h; cases h; exact yof_c (by omega) hcell), zbs, uk_u]
    have : u1 (ush1 u o i) i (u (i + 1)) = ush1 u o (i + 1) := by
      funext j; unfold u1 ush1
      by_cases hj : j = i
      · rw [if_pos hj, if_pos (by omega), hj]
      · rw [if_neg hj]
        by_cases h2 : o ≤ j ∧ j < i
        · rw [if_pos h2, if_pos (by omega)]
        · rw [if_neg h2, if_neg (by omega)]
    rw [this]
    exact ih (i + 1) f (by omega) (by omega) (by omega)
theorem zl_rem_0 {o j : Nat} : zl_rem L o 0 j = L 0 j := by unfold zl_rem zl_sh; rw [if_neg (by omega), u2_k (by decide)]
theorem zl_rem_5 {o : Nat} : zl_rem L o 5 0 = L 5 0 - 1 := by unfold zl_rem zl_sh; rw [if_neg (by omega), u2_s]
theorem zl_rem_j {o j k : Nat} (h1 : 1 ≤ j) (h4 : j ≤ 4) (hk : k < L 5 0 - 1) : zl_rem L o j k = L j (if o ≤ k then k + 1 else k) := by
  unfold zl_rem zl_sh
  by_cases hok : o ≤ k
  · rw [if_pos ⟨h1, h4, hok, hk⟩, u2_k (by omega), if_pos hok]
  · rw [if_neg (by omega), u2_k (by omega), if_neg hok]
theorem ytake (hv : v < 5) (h8 : L 5 0 ≤ 8) (hY : yB d x u L) {o : Nat} (ho : o < L 5 0) : zf_Ledger_takeOut (x + qL v) (nI o) (zx d x (zk T v L) (uk U v u)) = some ((), zx d x (zk T v (zl_rem L o)) (uk U v (ush u o (L 5 0 - 1)))) := by
  have e0 : uk U v u = uk U v (ush1 u o o) := by
    congr 1; funext j; unfold ush1; rw [if_neg (by omega)]
  unfold zf_Ledger_takeOut
  rw [xl_g3 d x _ _ hv, zbs, zkl_3, pk_sub (by omega), xl_p3 d x _ _ _ hv, zbs, zkl_u3, e0, ytake12 hv h8 hY ho (M := u2 L 5 0 (L 5 0 - 1)) u2_s (L 5 0 - 1 - o) o 9 (by omega) (Nat.le_refl _) (by omega)]
  rw [zk_ext (L := zl_rem L o) (L' := u2 L 5 0 (L 5 0 - 1)) (fun j _ => by rw [zl_rem_0, u2_k (by decide)]) (by rw [zl_rem_5, u2_s])]
theorem yB_rem (hB8 : L 5 0 ≤ 8) (hY : yB d x u L) {o : Nat} (ho : o < L 5 0) : yB d x (ush u o (L 5 0 - 1)) (zl_rem L o) := by
  refine ⟨fun k hk => ?_, fun k hk hk8 => ?_, fun i j a hi hj h1 h2 => ?_⟩
  · rw [zl_rem_5] at hk
    rw [zl_rem_j (by decide) (by decide) hk, zl_rem_j (by decide) (by decide) hk, zl_rem_j (by decide) (by decide) hk, zl_rem_j (by decide) (by decide) hk]
    obtain ⟨a, h1, h2, h3, h4⟩ := hY.1 (if o ≤ k then k + 1 else k) (by split <;> omega)
    refine ⟨a, ?_, h2, h3, h4⟩
    rw [← h1]
    unfold ush
    rw [if_neg (by omega)]
    by_cases hok : o ≤ k
    · rw [if_pos ⟨hok, hk⟩, if_pos hok]
    · rw [if_neg (by omega), if_neg hok]
  · rw [zl_rem_5] at hk
    unfold ush
    by_cases hkr : k = L 5 0 - 1
    · rw [if_pos hkr]
    · rw [if_neg hkr, if_neg (by omega)]
      exact hY.2.1 k (by omega) hk8
  · have key : ∀ i, i < 8 → ∀ a, ush u o (L 5 0 - 1) i = some a → ∃ i', i' < 8 ∧ u i' = some a ∧ (i' = if o ≤ i ∧ i < L 5 0 - 1 then i + 1 else i) ∧ (o ≤ i → i < L 5 0 - 1) := by
      intro i hi a h
      unfold ush at h
      by_cases c1 : i = L 5 0 - 1
      · rw [if_pos c1] at h; cases h
      · rw [if_neg c1] at h
        by_cases c2 : o ≤ i ∧ i < L 5 0 - 1
        · rw [if_pos c2] at h
          exact ⟨i + 1, by omega, h, by rw [if_pos c2], fun _ => c2.2⟩
        · rw [if_neg c2] at h
          refine ⟨i, hi, h, by rw [if_neg c2], fun hoi => ?_⟩
          by_cases hiL : i < L 5 0
          · omega
          · rw [hY.2.1 i (by omega) hi] at h; cases h
    obtain ⟨i', a1, a2, a3, a4⟩ := key i hi a h1
    obtain ⟨j', b1, b2, b3, b4⟩ := key j hj a h2
    have e := hY.2.2 i' j' a a1 b1 a2 b2
    rw [a3, b3] at e
    by_cases c1 : o ≤ i ∧ i < L 5 0 - 1 <;> by_cases c2 : o ≤ j ∧ j < L 5 0 - 1
    · rw [if_pos c1, if_pos c2] at e; omega
    · rw [if_pos c1, if_neg c2] at e; omega
    · rw [if_neg c1, if_pos c2] at e; omega
    · rw [if_neg c1, if_neg c2] at e; omega
end YL
