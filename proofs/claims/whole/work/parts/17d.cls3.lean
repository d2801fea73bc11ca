/-! The class: statements voted, accepted, confirmed. -/
def zq_nw (g : Nat → Bool) : Nat → Nat → Nat → Nat
  | 0, _, r => r
  | n + 1, u, r => zq_nw g n (u + 1) (if g u then r ||| 2 ^ u else r)
theorem zq_nw_5 (g : Nat → Bool) : zq_nw g 5 0 0 = zq_b5 g := by
  unfold zq_b5
  simp only [zq_nw]
  cases g 0 <;> cases g 1 <;> cases g 2 <;> cases g 3 <;> cases g 4 <;> rfl
theorem ynw5 {a b : Nat} {M : Nat → Nat} {σ : za_h} (hl : ∀ i, i < 5 → za_ld σ a 0 (nI i) = some (nI (M i))) (hM : ∀ i, i < 5 → M i < 2 ^ 32) (hb : b < 32) : ∀ (n u f r : Nat), u + n = 5 → n < f → zf_Statements_nodesWith_5 f a (nI b) (nI r) (nI u) σ = some (nI (zq_nw (fun u => (M u).testBit b) n u r), σ) := by
  intro n
  induction n with
  | zero =>
    intro u f r hu hf
    obtain ⟨f, rfl⟩ : ∃ g, f = g + 1 := ⟨f - 1, by omega⟩
    obtain rfl : u = 5 := by omega
    rw [zf_Statements_nodesWith_5, if_pos (Int32.le_refl _)]
    rfl
  | succ n ih =>
    intro u f r hu hf
    obtain ⟨f, rfl⟩ : ∃ g, f = g + 1 := ⟨f - 1, by omega⟩
    have hu5 : u < 5 := by omega
    rw [zf_Statements_nodesWith_5, if_neg (nI_ge hu5 (by decide))]
    unfold zf_Statements_nodesWith_29
    simp only [hl u hu5, Option.bind_some, yh (hM u hu5) hb, nI_add, zn_shl (show u < 32 by omega), Nat.one_mul, zn_or]
    rw [ih (u + 1) f r (by omega) (by omega), ih (u + 1) f (r ||| 2 ^ u) (by omega) (by omega)]
    show _ = some (nI (zq_nw (fun u => (M u).testBit b) n (u + 1) (if (M u).testBit b then r ||| 2 ^ u else r)), σ)
    cases (M u).testBit b
    · rw [if_pos (by decide)]; rfl
    · rw [if_neg (by decide)]; rfl
theorem ynw {a b o : Nat} {M : Nat → Nat} {σ : za_h} (hl : ∀ i, i < 5 → za_ld σ a 0 (nI i) = some (nI (M i))) (hM : ∀ i, i < 5 → M i < 2 ^ 32) (hb : b < 32) : zf_Statements_nodesWith o a (nI b) σ = some (nI (zq_b5 fun u => (M u).testBit b), σ) := by
  unfold zf_Statements_nodesWith
  rw [ynw5 hl hM hb 5 0 6 0 (by decide) (by decide), zq_nw_5]
section YS
variable {d : za_h} {x : Nat} {T : Nat → Nat → Nat} {U : Nat → Nat → Option Nat} {v s : Nat} {Q : zq_Q}
theorem qA_ge : 11 ≤ qA v s := by unfold qA; omega
theorem zt_tr {w j : Nat} (hw : w < 5) : zt T v s Q (3 + w) j = T (3 + w) j := zt_out (by have := @qA_ge v s; omega)
theorem yTb_t (hT : yTb T) : yTb (zt T v s Q) := by
  intro w hw
  rw [zt_tr hw, zt_tr hw, zt_tr hw, zt_tr hw]
  exact hT w hw
theorem yP_t {set w : Nat} (hw : w < 5) : yP (zt T v s Q) set w = yP T set w := by
  unfold yP
  rw [zt_tr hw, zt_tr hw, zt_tr hw, zt_tr hw]
theorem zq_quo_c {P P' : Nat → Nat → Bool} (h : ∀ set w, w < 5 → P set w = P' set w) (p : Nat) : zq_quo P p = zq_quo P' p := by
  refine Bool.eq_iff_iff.mpr ?_
  rw [zq_quo_iff, zq_quo_iff]
  exact ⟨fun g u hu hp => by rw [← h _ _ hu]; exact g u hu hp, fun g u hu hp => by rw [h _ _ hu]; exact g u hu hp⟩
theorem zq_giv_c {P P' : Nat → Nat → Bool} (h : ∀ set w, w < 5 → P set w = P' set w) (set w : Nat) : zq_giv P set w = zq_giv P' set w := by
  unfold zq_giv
  simp only [zq_quo_c h]
theorem ygivt (hT : yTb T) {set w : Nat} (hs : set < 32) (hw : w < 5) : zf_Quorums_isGivenTo (x + 1) (nI w) (nI set) (zx d x (zt T v s Q) U) = some (nI (zq_giv (yP T) set w).toNat, zx d x (zt T v s Q) U) := by
  rw [ygiv (yTb_t hT) hs hw, zq_giv_c (fun _ _ h => yP_t h)]
theorem yblkt (hT : yTb T) {set w : Nat} (hs : set < 32) (hw : w < 5) : zf_Trust_isBlockedBy (x + (3 + w)) (nI set) (zx d x (zt T v s Q) U) = some (nI (!yP T (31 - set) w).toNat, zx d x (zt T v s Q) U) := by
  rw [yblk (yTb_t hT) hs hw, yP_t hw]
theorem zq_Bi {Q : zq_Q} (hB : zq_B Q) {j : Nat} (h : j < 9) : Q 0 j < 2 ^ 28 := hB.1 j h
theorem yt_bk (hB : zq_B Q) {k i : Nat} (hk : k < 3) (hi : i < 5) : zt T v s Q (qS v s k + 1) i < 2 ^ 28 := by
  rw [zt_bk hk hi]
  split
  · exact Nat.or_lt_two_pow (hB.1 _ (by omega)) (hB.1 _ (by omega))
  · exact hB.2.1 _ (by omega)
theorem yt_ac (hB : zq_B Q) {k i : Nat} (hk : k < 3) (hi : i < 5) : zt T v s Q (qS v s k + 2) i < 2 ^ 28 := by
  rw [zt_ac hk hi]
  split
  · exact hB.1 _ (by omega)
  · exact hB.2.1 _ (by omega)
theorem zq_b5_c {g h : Nat → Bool} (e : ∀ u, u < 5 → g u = h u) : zq_b5 g = zq_b5 h := by
  unfold zq_b5
  rw [e 0 (by decide), e 1 (by decide), e 2 (by decide), e 3 (by decide), e 4 (by decide)]
theorem ynb (hv : v < 5) (hs : s < 3) (hB : zq_B Q) {k b o : Nat} (hk : k < 3) (hb : b < 28) : zf_Statements_nodesWith o (x + (qS v s k + 1)) (nI b) (zx d x (zt T v s Q) U) = some (nI (zq_bk v Q k b), zx d x (zt T v s Q) U) := by
  rw [ynw (M := zt T v s Q (qS v s k + 1)) (fun i hi => xb_l d x _ U hv hs hk hi) (fun i hi => by have := yt_bk (T := T) (v := v) (s := s) hB hk hi; omega) (by omega)]
  have : (zq_b5 fun u => (zt T v s Q (qS v s k + 1) u).testBit b) = zq_bk v Q k b := by
    unfold zq_bk
    refine zq_b5_c (fun u hu => ?_)
    rw [zt_bk hk hu]
    by_cases huv : u = v
    · rw [if_pos huv, if_pos huv, Nat.testBit_or]
      unfold zq_has
      rw [Bool.or_comm]; rfl
    · rw [if_neg huv, if_neg huv]
  rw [this]
theorem yna (hv : v < 5) (hs : s < 3) (hB : zq_B Q) {k b o : Nat} (hk : k < 3) (hb : b < 28) : zf_Statements_nodesWith o (x + (qS v s k + 2)) (nI b) (zx d x (zt T v s Q) U) = some (nI (zq_ac v Q k b), zx d x (zt T v s Q) U) := by
  rw [ynw (M := zt T v s Q (qS v s k + 2)) (fun i hi => xc_l d x _ U hv hs hk hi) (fun i hi => by have := yt_ac (T := T) (v := v) (s := s) hB hk hi; omega) (by omega)]
  have : (zq_b5 fun u => (zt T v s Q (qS v s k + 2) u).testBit b) = zq_ac v Q k b := by
    unfold zq_ac
    refine zq_b5_c (fun u hu => ?_)
    rw [zt_ac hk hu]
    by_cases huv : u = v
    · rw [if_pos huv, if_pos huv]; rfl
    · rw [if_neg huv, if_neg huv]
  rw [this]
theorem zq_put_id {k h b : Nat} (hh : zq_has Q k h b = true) : zq_put Q k h b = Q := by
  unfold zq_put
  rw [zq_or_eq.mpr hh, u2_id]
theorem yvote (hv : v < 5) (hs : s < 3) (hB : zq_B Q) {k b : Nat} (hk : k < 3) (hb : b < 28) : zf_Statements_vote (x + qS v s k) (nI b) (zx d x (zt T v s Q) U) = some (nI (zq_vote Q k b).1.toNat, zx d x (zt T v s (zq_vote Q k b).2) U) := by
  have h0 := hB.1 (3 * k) (by omega)
  unfold zf_Statements_vote
  simp only [xs_g2 d x _ U hv hs hk, Option.bind_some, zt_vo hk, yh (show Q 0 (3 * k) < 2 ^ 32 by omega) (show b < 32 by omega), zn_shl (show b < 32 by omega), Nat.one_mul, zn_or, xs_p2 d x _ U _ hv hs hk, xs_g4 d x _ U hv hs hk, xs_g0 d x _ U hv hs hk, xb_l d x _ U hv hs hk hv, xb_s d x _ U hv hs hk hv]
  unfold zq_vote
  cases hb0 : (Q 0 (3 * k)).testBit b
  · rw [if_pos (by decide), u2_k (by omega), zt_bk hk hv, if_pos rfl, zt_vote hv hk]
    unfold zq_has
    simp only [Nat.add_zero, hb0]
    rfl
  · rw [if_neg (by decide)]
    have : zq_has Q k 0 b = true := hb0
    rw [this, zq_put_id this]
    rfl
/-- the class's acceptance: the clash is looked at elsewhere -/
def zq_ya (P : Nat → Nat → Bool) (v k b : Nat) (Q : zq_Q) : Bool × zq_Q := if !zq_has Q k 1 b && (!(P (31 - zq_ac v Q k b) v) || zq_giv P (zq_bk v Q k b) v) then (true, zq_put Q k 1 b) else (false, Q)
theorem zq_bk_lt {k b : Nat} : zq_bk v Q k b < 32 := zq_b5_lt _
theorem zq_ac_lt {k b : Nat} : zq_ac v Q k b < 32 := zq_b5_lt _
theorem zq_giv_in {P : Nat → Nat → Bool} {set w : Nat} (hs : set < 32) (hw : w < 5) (h : zq_giv P set w = true) : set.testBit w = true := by
  obtain ⟨p, h1, h2, h3, -⟩ := (zq_giv_iff hs).mp h
  exact h2 w hw h3
theorem yacc (hT : yTb T) (hv : v < 5) (hs : s < 3) (hB : zq_B Q) {k b : Nat} (hk : k < 3) (hb : b < 28) : zf_Statements_acceptIfMay (x + qS v s k) (nI b) (zx d x (zt T v s Q) U) = some (nI (zq_ya (yP T) v k b Q).1.toNat, zx d x (zt T v s (zq_ya (yP T) v k b Q).2) U) := by
  have h0 := hB.1 (3 * k) (by omega)
  have h1 := hB.1 (3 * k + 1) (by omega)
  have h01 : (Q 0 (3 * k) ||| Q 0 (3 * k + 1)) < 2 ^ 28 := Nat.or_lt_two_pow h0 h1
  have e84 : zf_Statements_acceptIfMay_84 (x + qS v s k) (nI b) (zx d x (zt T v s Q) U) = some (nI 1, zx d x (zt T v s (zq_put Q k 1 b)) U) := by
    unfold zf_Statements_acceptIfMay_84 zf_Statements_acceptIfMay_89 zf_Statements_acceptIfMay_124
    simp only [z10, if_false, z011, if_true, xs_g5 d x _ U hv hs hk, Option.bind_some, xs_g0 d x _ U hv hs hk, xc_l d x _ U hv hs hk hv, zn_shl (show b < 32 by omega), Nat.one_mul, zn_or, xc_s d x _ U hv hs hk hv, xs_g4 d x _ U hv hs hk, xb_l d x _ U hv hs hk hv, xb_s d x _ U hv hs hk hv]
    rw [u2_k (show qS v s k + 1 ≠ qS v s k + 2 by omega), zt_bk hk hv, if_pos rfl, zt_ac hk hv, if_pos rfl, zt_acc hv hk, if_pos (Or.inr (by decide))]
  have e57 : zf_Statements_acceptIfMay_57 (x + qS v s k) (nI b) (zx d x (zt T v s Q) U) = if yP T (31 - zq_ac v Q k b) v then some (nI 0, zx d x (zt T v s Q) U) else some (nI 1, zx d x (zt T v s (zq_put Q k 1 b)) U) := by
    unfold zf_Statements_acceptIfMay_57 
    simp only [xs_g1 d x _ U hv hs hk, Option.bind_some, xq_g0, xs_g0 d x _ U hv hs hk, xts_l d x _ U hv, xs_g5 d x _ U hv hs hk, xs_c d x _ U hv hs hk, yna hv hs hB hk hb, xt_c d x _ U hv, yblkt hT zq_ac_lt hv, e84]
    unfold zf_Statements_acceptIfMay_89 zf_Statements_acceptIfMay_124
    simp only [z00, z010, if_true]
    cases yP T (31 - zq_ac v Q k b) v <;> rfl
  unfold zf_Statements_acceptIfMay
  simp only [xs_g5 d x _ U hv hs hk, Option.bind_some, xs_g0 d x _ U hv hs hk, xc_l d x _ U hv hs hk hv, zt_ac hk hv, if_true, yh (show Q 0 (3 * k + 1) < 2 ^ 32 by omega) (show b < 32 by omega), xs_g4 d x _ U hv hs hk, xb_l d x _ U hv hs hk hv, zt_bk hk hv, yh (show (Q 0 (3 * k) ||| Q 0 (3 * k + 1)) < 2 ^ 32 by omega) (show b < 32 by omega), xs_g1 d x _ U hv hs hk, xs_c d x _ U hv hs hk, ynb hv hs hB hk hb, xq_c, ygivt hT zq_bk_lt hv, e84, e57]
  unfold zq_ya
  have hh : (Q 0 (3 * k + 1)).testBit b = zq_has Q k 1 b := rfl
  rw [hh]
  cases c1 : zq_has Q k 1 b
  · rw [if_pos (by decide), Bool.not_false, Bool.true_and]
    cases c2 : (Q 0 (3 * k) ||| Q 0 (3 * k + 1)).testBit b
    · rw [if_pos (by decide)]
      have : zq_giv (yP T) (zq_bk v Q k b) v = false := by
        cases hg : zq_giv (yP T) (zq_bk v Q k b) v with
        | false => rfl
        | true =>
          have := zq_giv_in zq_bk_lt hv hg
          unfold zq_bk at this
          rw [zq_b5_tb _ hv, if_pos rfl, Bool.or_comm] at this
          unfold zq_has at this
          rw [Nat.add_zero, ← Nat.testBit_or, c2] at this
          cases this
      rw [this, Bool.or_false]
      cases yP T (31 - zq_ac v Q k b) v <;> rfl
    · rw [if_neg (by decide)]
      cases zq_giv (yP T) (zq_bk v Q k b) v
      · rw [if_pos (by decide), Bool.or_false]
        cases yP T (31 - zq_ac v Q k b) v <;> rfl
      · rw [if_neg (by decide), Bool.or_true]
        rfl
  · rw [if_neg (by decide)]
    rfl
theorem ycon (hT : yTb T) (hv : v < 5) (hs : s < 3) (hB : zq_B Q) {k b : Nat} (hk : k < 3) (hb : b < 28) : zf_Statements_confirmIfMay (x + qS v s k) (nI b) (zx d x (zt T v s Q) U) = some (nI (zq_con (yP T) v k b Q).1.toNat, zx d x (zt T v s (zq_con (yP T) v k b Q).2) U) := by
  have h1 := hB.1 (3 * k + 1) (by omega)
  have h2 := hB.1 (3 * k + 2) (by omega)
  unfold zf_Statements_confirmIfMay zf_Statements_confirmIfMay_31 zf_Statements_confirmIfMay_32 zf_Statements_confirmIfMay_60
  simp only [z00, z10, if_true, if_false, xs_g5 d x _ U hv hs hk, Option.bind_some, xs_g0 d x _ U hv hs hk, xc_l d x _ U hv hs hk hv, zt_ac hk hv, yh (show Q 0 (3 * k + 1) < 2 ^ 32 by omega) (show b < 32 by omega), xs_g3 d x _ U hv hs hk, zt_co hk, yh (show Q 0 (3 * k + 2) < 2 ^ 32 by omega) (show b < 32 by omega), xs_g1 d x _ U hv hs hk, xs_c d x _ U hv hs hk, yna hv hs hB hk hb, xq_c, ygivt hT zq_ac_lt hv, zn_shl (show b < 32 by omega), Nat.one_mul, zn_or, xs_p3 d x _ U _ hv hs hk, zt_con hk]
  unfold zq_con zq_cf
  have hh : (Q 0 (3 * k + 2)).testBit b = zq_has Q k 2 b := rfl
  rw [hh]
  cases c1 : (Q 0 (3 * k + 1)).testBit b
  · rw [if_pos (by decide)]
    have : zq_giv (yP T) (zq_ac v Q k b) v = false := by
      cases hg : zq_giv (yP T) (zq_ac v Q k b) v with
      | false => rfl
      | true =>
        have := zq_giv_in zq_ac_lt hv hg
        unfold zq_ac at this
        rw [zq_b5_tb _ hv, if_pos rfl] at this
        unfold zq_has at this
        rw [c1] at this
        cases this
    rw [this, Bool.and_false]
    rfl
  · rw [if_neg (by decide)]
    cases zq_has Q k 2 b
    · rw [if_pos (by decide), Bool.not_false, Bool.true_and]
      cases zq_giv (yP T) (zq_ac v Q k b) v <;> rfl
    · rw [if_neg (by decide)]
      rfl
end YS
