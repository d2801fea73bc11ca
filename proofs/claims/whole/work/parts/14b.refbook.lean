/-! The reference: a node's ledger as registers, and what is carried out. -/
def zv (S : Nat → Nat → Nat) (v : Nat) (L : zq_Q) : Nat → Nat → Nat := fun k i =>
  if k = 26 ∧ 8 * v ≤ i ∧ i < 8 * v + 8 then L 0 (i - 8 * v)
  else if 28 ≤ k ∧ k < 32 ∧ 9 * v ≤ i ∧ i < 9 * v + 9 then L (k - 27) (i - 9 * v)
  else if k = 27 ∧ i = v then L 5 0 else S k i
theorem zv_row {S : Nat → Nat → Nat} {v k : Nat} {L : zq_Q} (h : k < 26 ∨ 31 < k) : zv S v L k = S k := by
  funext i
  unfold zv
  rw [if_neg (by omega), if_neg (by omega), if_neg (by omega)]
theorem zv_26 {S : Nat → Nat → Nat} {v j : Nat} {L : zq_Q} (h : j < 8) : zv S v L 26 (8 * v + j) = L 0 j := by
  unfold zv
  rw [if_pos ⟨rfl, by omega, by omega⟩, show 8 * v + j - 8 * v = j by omega]
theorem zv_b {S : Nat → Nat → Nat} {v c j : Nat} {L : zq_Q} (hc : c < 4) (h : j < 9) : zv S v L (28 + c) (9 * v + j) = L (1 + c) j := by
  unfold zv
  rw [if_neg (by omega), if_pos ⟨by omega, by omega, by omega, by omega⟩, show 9 * v + j - 9 * v = j by omega, show 28 + c - 27 = 1 + c by omega]
theorem zv_27 {S : Nat → Nat → Nat} {v : Nat} {L : zq_Q} : zv S v L 27 v = L 5 0 := by
  unfold zv
  rw [if_neg (by omega), if_neg (by omega), if_pos ⟨rfl, rfl⟩]
theorem zv_un {S : Nat → Nat → Nat} {v k0 i0 x : Nat} {L L' : zq_Q} (hx : x = zv S v L' k0 i0)
    (h0 : ∀ i, 8 * v ≤ i → i < 8 * v + 8 → ¬ (26 = k0 ∧ i = i0) → L 0 (i - 8 * v) = L' 0 (i - 8 * v))
    (h1 : ∀ k i, 28 ≤ k → k < 32 → 9 * v ≤ i → i < 9 * v + 9 → ¬ (k = k0 ∧ i = i0) → L (k - 27) (i - 9 * v) = L' (k - 27) (i - 9 * v))
    (h2 : ¬ (27 = k0 ∧ v = i0) → L 5 0 = L' 5 0) : u2 (zv S v L) k0 i0 x = zv S v L' := by
  funext k i
  show (if k = k0 ∧ i = i0 then x else zv S v L k i) = zv S v L' k i
  by_cases hc : k = k0 ∧ i = i0
  · rw [if_pos hc, hx, hc.1, hc.2]
  · rw [if_neg hc]
    unfold zv
    by_cases c1 : k = 26 ∧ 8 * v ≤ i ∧ i < 8 * v + 8
    · rw [if_pos c1, if_pos c1]
      exact h0 i c1.2.1 c1.2.2 (fun q => hc ⟨c1.1.trans q.1, q.2⟩)
    · rw [if_neg c1, if_neg c1]
      by_cases c2 : 28 ≤ k ∧ k < 32 ∧ 9 * v ≤ i ∧ i < 9 * v + 9
      · rw [if_pos c2, if_pos c2]
        exact h1 k i c2.1 c2.2.1 c2.2.2.1 c2.2.2.2 hc
      · rw [if_neg c2, if_neg c2]
        by_cases c3 : k = 27 ∧ i = v
        · rw [if_pos c3, if_pos c3]
          exact h2 (fun q => hc ⟨c3.1.trans q.1, c3.2.trans q.2⟩)
        · rw [if_neg c3, if_neg c3]
theorem zv_u26 {S : Nat → Nat → Nat} {v j x : Nat} {L : zq_Q} (h : j < 8) : u2 (zv S v L) 26 (8 * v + j) x = zv S v (u2 L 0 j x) := by
  refine zv_un ?_ (fun i a b c => ?_) (fun k i a b c d e => ?_) (fun c => ?_)
  · rw [zv_26 h, u2_s]
  · rw [u2_i (by omega)]
  · rw [u2_k (by omega)]
  · rw [u2_k (by decide)]
theorem zv_ub {S : Nat → Nat → Nat} {v c j x : Nat} {L : zq_Q} (hc : c < 4) (h : j < 9) : u2 (zv S v L) (28 + c) (9 * v + j) x = zv S v (u2 L (1 + c) j x) := by
  refine zv_un ?_ (fun i a b q => ?_) (fun k i a b q d e => ?_) (fun q => ?_)
  · rw [zv_b hc h, u2_s]
  · rw [u2_k (by omega)]
  · by_cases hk : k = 28 + c
    · rw [u2_i (by omega)]
    · rw [u2_k (by omega)]
  · rw [u2_k (by omega)]
theorem zv_u27 {S : Nat → Nat → Nat} {v x : Nat} {L : zq_Q} : u2 (zv S v L) 27 v x = zv S v (u2 L 5 0 x) := by
  refine zv_un ?_ (fun i a b q => ?_) (fun k i a b q d e => ?_) (fun q => ?_)
  · rw [zv_27, u2_s]
  · rw [u2_k (by decide)]
  · rw [u2_k (by omega)]
  · exact absurd ⟨rfl, rfl⟩ q
section RB
variable {S : Nat → Nat → Nat} {v : Nat} {d : za_h} {m : Nat} {L : zq_Q}
/-- reads and writes of the ledger's registers -/
theorem zb_r26 (hv : v < 5) {j : Nat} (h : j < 8) : za_ld (zr d m (zv S v L)) (m + 24) 0 (nI (8 * v + j)) = some (nI (L 0 j)) := by
  rw [zr_l26 (by omega), zv_26 h]
theorem zb_w26 (hv : v < 5) {j x : Nat} (h : j < 8) : za_st (zr d m (zv S v L)) (m + 24) 0 (nI (8 * v + j)) (nI x) = some (zr d m (zv S v (u2 L 0 j x))) := by
  rw [zr_s26 (by omega), zv_u26 h]
theorem zb_r27 (hv : v < 5) : za_ld (zr d m (zv S v L)) (m + 25) 0 (nI v) = some (nI (L 5 0)) := by
  rw [zr_l27 hv, zv_27]
theorem zb_w27 (hv : v < 5) {x : Nat} : za_st (zr d m (zv S v L)) (m + 25) 0 (nI v) (nI x) = some (zr d m (zv S v (u2 L 5 0 x))) := by
  rw [zr_s27 hv, zv_u27]
theorem zb_r28 (hv : v < 5) {j : Nat} (h : j < 9) : za_ld (zr d m (zv S v L)) (m + 26) 0 (nI (9 * v + j)) = some (nI (L 1 j)) := by
  rw [zr_l28 (by omega), zv_b (c := 0) (by decide) h]
theorem zb_r29 (hv : v < 5) {j : Nat} (h : j < 9) : za_ld (zr d m (zv S v L)) (m + 27) 0 (nI (9 * v + j)) = some (nI (L 2 j)) := by
  rw [zr_l29 (by omega), zv_b (c := 1) (by decide) h]
theorem zb_r30 (hv : v < 5) {j : Nat} (h : j < 9) : za_ld (zr d m (zv S v L)) (m + 28) 0 (nI (9 * v + j)) = some (nI (L 3 j)) := by
  rw [zr_l30 (by omega), zv_b (c := 2) (by decide) h]
theorem zb_r31 (hv : v < 5) {j : Nat} (h : j < 9) : za_ld (zr d m (zv S v L)) (m + 29) 0 (nI (9 * v + j)) = some (nI (L 4 j)) := by
  rw [zr_l31 (by omega), zv_b (c := 3) (by decide) h]
theorem zb_w28 (hv : v < 5) {j x : Nat} (h : j < 9) : za_st (zr d m (zv S v L)) (m + 26) 0 (nI (9 * v + j)) (nI x) = some (zr d m (zv S v (u2 L 1 j x))) := by
  rw [zr_s28 (by omega), zv_ub (c := 0) (by decide) h]
theorem zb_w29 (hv : v < 5) {j x : Nat} (h : j < 9) : za_st (zr d m (zv S v L)) (m + 27) 0 (nI (9 * v + j)) (nI x) = some (zr d m (zv S v (u2 L 2 j x))) := by
  rw [zr_s29 (by omega), zv_ub (c := 1) (by decide) h]
theorem zb_w30 (hv : v < 5) {j x : Nat} (h : j < 9) : za_st (zr d m (zv S v L)) (m + 28) 0 (nI (9 * v + j)) (nI x) = some (zr d m (zv S v (u2 L 3 j x))) := by
  rw [zr_s30 (by omega), zv_ub (c := 2) (by decide) h]
theorem zb_w31 (hv : v < 5) {j x : Nat} (h : j < 9) : za_st (zr d m (zv S v L)) (m + 29) 0 (nI (9 * v + j)) (nI x) = some (zr d m (zv S v (u2 L 4 j x))) := by
  rw [zr_s31 (by omega), zv_ub (c := 3) (by decide) h]
/-- what a transaction holds -/
def zb_tx (S : Nat → Nat → Nat) (k kd ac wh ot am : Nat) : Prop := k < 9 ∧ S 21 k = kd ∧ S 22 k = ac ∧ S 23 k = wh ∧ S 24 k = ot ∧ S 25 k = am ∧ kd < 2 ∧ ac < 4 ∧ wh < 2 ∧ (kd = 1 → 1 ≤ ot ∧ ot ≤ 9) ∧ (kd ≠ 1 → ot < 4) ∧ 1 ≤ am ∧ am ≤ 1000
theorem zb_rt {k kd ac wh ot am : Nat} (h : zb_tx S k kd ac wh ot am) : za_ld (zr d m (zv S v L)) (m + 19) 0 (nI k) = some (nI kd) ∧ za_ld (zr d m (zv S v L)) (m + 20) 0 (nI k) = some (nI ac) ∧ za_ld (zr d m (zv S v L)) (m + 21) 0 (nI k) = some (nI wh) ∧ za_ld (zr d m (zv S v L)) (m + 22) 0 (nI k) = some (nI ot) ∧ za_ld (zr d m (zv S v L)) (m + 23) 0 (nI k) = some (nI am) := by
  obtain ⟨hk, h1, h2, h3, h4, h5, -⟩ := h
  rw [zr_l21 hk, zr_l22 hk, zr_l23 hk, zr_l24 hk, zr_l25 hk, zv_row (by omega), zv_row (by omega), zv_row (by omega), zv_row (by omega), zv_row (by omega), h1, h2, h3, h4, h5]
  exact ⟨rfl, rfl, rfl, rfl, rfl⟩
def zb_oi (v : Nat) (f : Option Nat) : Int32 := match f with
  | none => -1
  | some o => nI (9 * v + o)
theorem zb_best9 (hv : v < 5) (hB : zl_B L) {ow lim : Nat} (how : ow < 2) (hlim : lim < 2 ^ 30) : ∀ (r o f : Nat) (g : Option Nat), o + r = L 5 0 → r < f → (∀ q, g = some q → q < L 5 0) → zf_Mo_best_9 f m (nI v) (nI ow) (nI lim) (zb_oi v g) (nI (9 * v + o)) (zr d m (zv S v L)) = some (zb_oi v (zl_best L ow lim r o g), zr d m (zv S v L)) := by
  intro r
  induction r with
  | zero =>
    intro o f g ho hf hg
    obtain ⟨f, rfl⟩ : ∃ q, f = q + 1 := ⟨f - 1, by omega⟩
    have hr8 := hB.2.2.1
    rw [zf_Mo_best_9]
    simp only [zr_g27, Option.bind_some, zb_r27 hv, pk_mul, nI_add]
    rw [if_pos (nI_le (by omega) (by omega))]
    rfl
  | succ r ih =>
    intro o f g ho hf hg
    obtain ⟨f, rfl⟩ : ∃ q, f = q + 1 := ⟨f - 1, by omega⟩
    have hr8 := hB.2.2.1
    have hol : o < L 5 0 := by omega
    obtain ⟨b1, b2, b3, b4, b5, b6⟩ := hB.2.2.2 o hol
    have hnext : ∀ g', (∀ q, g' = some q → q < L 5 0) → zf_Mo_best_142 (zf_Mo_best_9 f) m (nI v) (nI ow) (nI lim) (nI (9 * v + o)) (zb_oi v g') (zr d m (zv S v L)) = some (zb_oi v (zl_best L ow lim r (o + 1) g'), zr d m (zv S v L)) := by
      intro g' hg'
      unfold zf_Mo_best_142
      rw [nI_add, Nat.add_assoc]
      exact ih (o + 1) f g' (by omega) (by omega) hg'
    have h123 : ∀ a b : Bool, zf_Mo_best_123 (zf_Mo_best_9 f) m (nI v) (nI ow) (nI lim) (zb_oi v g) (nI (9 * v + o)) (nI a.toNat) (nI b.toNat) (zr d m (zv S v L)) = some (zb_oi v (zl_best L ow lim r (o + 1) (if a && b then some o else g)), zr d m (zv S v L)) := by
      intro a b
      unfold zf_Mo_best_123 zf_Mo_best_140
      cases a
      · rw [if_pos (by decide)]; exact hnext g hg
      · rw [if_neg (by decide)]
        cases b
        · rw [if_pos (by decide)]; exact hnext g hg
        · rw [if_neg (by decide)]
          exact hnext (some o) (fun q hq => by cases hq; exact hol)
    have h70 : ∀ a : Bool, zf_Mo_best_70 (zf_Mo_best_9 f) m (nI v) (nI ow) (nI lim) (zb_oi v g) (nI (9 * v + o)) (nI a.toNat) (zr d m (zv S v L)) = some (zb_oi v (zl_best L ow lim r (o + 1) (if a && zl_bet L ow o g then some o else g)), zr d m (zv S v L)) := by
      intro a
      unfold zf_Mo_best_70 zf_Mo_best_118 zf_Mo_best_122
      cases g with
      | none =>
        rw [if_pos (by show (-1 : Int32) < 0; decide)]
        exact h123 a true
      | some q =>
        have hq := hg q rfl
        obtain ⟨q1, q2, q3, q4, -⟩ := hB.2.2.2 q hq
        rw [if_neg (by show ¬ nI (9 * v + q) < 0; exact zn_lt0 (by omega))]
        simp only [zb_oi, zr_g30, Option.bind_some, zb_r30 hv (show o < 9 by omega), zb_r30 hv (show q < 9 by omega), nI_leI (show L 3 q < 2 ^ 31 by omega) (show L 3 o < 2 ^ 31 by omega), nI_leI (show L 3 o < 2 ^ 31 by omega) (show L 3 q < 2 ^ 31 by omega), zn_eq0 (show ow < 2 ^ 31 by omega)]
        unfold zl_bet
        by_cases h0 : ow = 0
        · simp only [h0, if_true]
          by_cases h1 : L 3 q ≤ L 3 o
          · rw [if_pos h1, decide_eq_false (by omega)]
            have := h123 a false
            rw [h0] at this
            exact this
          · rw [if_neg h1, decide_eq_true (by omega)]
            have := h123 a true
            rw [h0] at this
            exact this
        · simp only [h0, if_false]
          by_cases h1 : L 3 o ≤ L 3 q
          · rw [if_pos h1, decide_eq_false (by omega)]
            exact h123 a false
          · rw [if_neg h1, decide_eq_true (by omega)]
            exact h123 a true
    rw [zf_Mo_best_9]
    unfold zf_Mo_best_69 zf_Mo_best_65
    simp only [zr_g27, zr_g29, zr_g30, Option.bind_some, zb_r27 hv, zb_r29 hv (show o < 9 by omega), zb_r30 hv (show o < 9 by omega), pk_mul, nI_add]
    rw [if_neg (nI_ge (by omega) (by omega)), zl_best_s]
    have t1 := h70 true
    have t0 := h70 false
    rw [ztn] at t1
    rw [zfn] at t0
    unfold zl_fit
    by_cases hs : L 2 o = ow
    · rw [if_pos (by rw [hs]), t0]
      simp [hs]
    · rw [if_neg (fun h => hs ((nI_eq (by omega) (by omega)).mp h)), beq_false_of_ne hs]
      by_cases h0 : ow = 0
      · rw [if_pos (by rw [h0]; rfl), if_pos h0]
        by_cases h1 : lim < L 3 o
        · rw [if_pos (nI_lt h1 (by omega)), t0, decide_eq_false (by omega)]; rfl
        · rw [if_neg (nI_nlt (by omega) (by omega)), t1, decide_eq_true (by omega)]; rfl
      · rw [if_neg (fun h => h0 ((zn_eq0 (by omega)).mp h)), if_neg h0]
        by_cases h1 : L 3 o < lim
        · rw [if_pos (nI_lt h1 (by omega)), t0, decide_eq_false (by omega)]; rfl
        · rw [if_neg (nI_nlt (by omega) (by omega)), t1, decide_eq_true (by omega)]; rfl
theorem zb_best (hv : v < 5) (hB : zl_B L) {ow lim : Nat} (how : ow < 2) (hlim : lim < 2 ^ 30) : zf_Mo_best m (nI v) (nI ow) (nI lim) (zr d m (zv S v L)) = some (zb_oi v (zl_best L ow lim (L 5 0) 0 none), zr d m (zv S v L)) := by
  unfold zf_Mo_best
  rw [pk_mul]
  have := hB.2.2.1
  exact zb_best9 (m := m) (d := d) (S := S) hv hB how hlim (L 5 0) 0 10 none (by omega) (by omega) (fun q h => by cases h)
end RB
