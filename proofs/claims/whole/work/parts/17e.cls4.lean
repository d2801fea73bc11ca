/-! The class: the rules of a slot. -/
theorem yor (a b : Bool) : nI a.toNat ||| nI b.toNat = nI (b || a).toNat := by cases a <;> cases b <;> decide
theorem zq_ya_0 {P : Nat → Nat → Bool} {v b : Nat} {Q : zq_Q} : zq_ya P v 0 b Q = zq_acc P v 0 b Q := by
  unfold zq_ya zq_acc zq_may
  rfl
theorem zq_ya_1 {P : Nat → Nat → Bool} {v b : Nat} {Q : zq_Q} : zq_acc P v 1 b Q = if zq_cl Q 2 1 b false = false then zq_ya P v 1 b Q else (false, Q) := by
  unfold zq_ya zq_acc zq_may
  cases zq_cl Q 2 1 b false
  · rfl
  · cases zq_has Q 1 1 b <;> rfl
theorem zq_ya_2 {P : Nat → Nat → Bool} {v b : Nat} {Q : zq_Q} : zq_acc P v 2 b Q = if zq_cl Q 1 1 b true = false then zq_ya P v 2 b Q else (false, Q) := by
  unfold zq_ya zq_acc zq_may
  cases zq_cl Q 1 1 b true
  · rfl
  · cases zq_has Q 2 1 b <;> rfl
theorem zq_ya_B {P : Nat → Nat → Bool} {v k b : Nat} {Q : zq_Q} (hB : zq_B Q) (hk : k < 3) (hb : b < 28) : zq_B (zq_ya P v k b Q).2 := by
  unfold zq_ya
  split
  · exact zq_put_B hB (by omega) hb
  · exact hB
section YR
variable {d : za_h} {x : Nat} {T : Nat → Nat → Nat} {U : Nat → Nat → Option Nat} {v s : Nat} {Q : zq_Q}
/-- rule A -/
theorem yA16 (hv : v < 5) (hs : s < 3) : ∀ (n b f : Nat) (mv : Bool) (Q : zq_Q), b + n = 8 → n < f → zq_B Q →
    zf_Agreement_voteNominate_16 f (x + qA v s) (nI mv.toNat) (nI b) (zx d x (zt T v s Q) U) = some (nI (zq_loop (zq_A1 v) n b mv Q).1.toNat, zx d x (zt T v s (zq_loop (zq_A1 v) n b mv Q).2) U) := by
  intro n
  induction n with
  | zero =>
    intro b f mv Q hb hf hB
    obtain ⟨f, rfl⟩ : ∃ g, f = g + 1 := ⟨f - 1, by omega⟩
    obtain rfl : b = 8 := by omega
    rw [zf_Agreement_voteNominate_16, if_pos (nI_lt (by decide) (by decide)), if_pos (zn_b01 mv)]
    rfl
  | succ n ih =>
    intro b f mv Q hb hf hB
    obtain ⟨f, rfl⟩ : ∃ g, f = g + 1 := ⟨f - 1, by omega⟩
    have hb8 : b < 8 := by omega
    obtain ⟨h0, h1, hl, hc, hp⟩ := hB
    have hB : zq_B Q := ⟨h0, h1, hl, hc, hp⟩
    have e77 : zf_Agreement_voteNominate_77 (zf_Agreement_voteNominate_16 f) (x + qA v s) (nI mv.toNat) (nI b) (zx d x (zt T v s Q) U) = some (nI (zq_loop (zq_A1 v) n (b + 1) ((zq_vote Q 0 b).1 || mv) (zq_vote Q 0 b).2).1.toNat, zx d x (zt T v s (zq_loop (zq_A1 v) n (b + 1) ((zq_vote Q 0 b).1 || mv) (zq_vote Q 0 b).2).2) U) := by
      unfold zf_Agreement_voteNominate_77 zf_Agreement_voteNominate_88
      simp only [xa_g3 d x _ U hv hs, Option.bind_some, xs_c d x _ U hv hs (show 0 < 3 by decide), yvote hv hs hB (show 0 < 3 by decide) (show b < 28 by omega), yor, nI_add]
      exact ih (b + 1) f _ _ (by omega) (by omega) (zq_vote_B hB (by decide) (by omega))
    have e48 : zf_Agreement_voteNominate_49 (zf_Agreement_voteNominate_16 f) (x + qA v s) (nI mv.toNat) (nI b) (nI 0) (zx d x (zt T v s Q) U) = if zq_bk v Q 0 b &&& Q 2 1 = 0 then some (nI (zq_loop (zq_A1 v) n (b + 1) mv Q).1.toNat, zx d x (zt T v s (zq_loop (zq_A1 v) n (b + 1) mv Q).2) U) else some (nI (zq_loop (zq_A1 v) n (b + 1) ((zq_vote Q 0 b).1 || mv) (zq_vote Q 0 b).2).1.toNat, zx d x (zt T v s (zq_loop (zq_A1 v) n (b + 1) ((zq_vote Q 0 b).1 || mv) (zq_vote Q 0 b).2).2) U) := by
      have hlt : zq_bk v Q 0 b &&& Q 2 1 < 32 := Nat.lt_of_le_of_lt Nat.and_le_left zq_bk_lt
      have h8 : zt T v s Q (qA v s) 8 = Q 2 1 := zt_79 (j := 1) (by decide)
      unfold zf_Agreement_voteNominate_49 
      simp only [z00, if_true, xa_g3 d x _ U hv hs, Option.bind_some, xs_c d x _ U hv hs (show 0 < 3 by decide), xs_g4 d x _ U hv hs (show 0 < 3 by decide), ynb hv hs hB (show 0 < 3 by decide) (show b < 28 by omega), xa_g8 d x _ U hv hs, h8, zn_and, zn_eq0 (show zq_bk v Q 0 b &&& Q 2 1 < 2 ^ 31 by omega), e77]
      unfold zf_Agreement_voteNominate_88
      rw [nI_add, ih (b + 1) f mv Q (by omega) (by omega) hB]
    have e49 : zf_Agreement_voteNominate_49 (zf_Agreement_voteNominate_16 f) (x + qA v s) (nI mv.toNat) (nI b) (nI 1) (zx d x (zt T v s Q) U) = some (nI (zq_loop (zq_A1 v) n (b + 1) ((zq_vote Q 0 b).1 || mv) (zq_vote Q 0 b).2).1.toNat, zx d x (zt T v s (zq_loop (zq_A1 v) n (b + 1) ((zq_vote Q 0 b).1 || mv) (zq_vote Q 0 b).2).2) U) := by
      unfold zf_Agreement_voteNominate_49
      rw [if_neg (by decide), e77]
    have h8 : zt T v s Q (qA v s) 8 = Q 2 1 := zt_79 (j := 1) (by decide)
    rw [zf_Agreement_voteNominate_16, if_neg (nI_nlt (by omega) (by omega)), zq_loop_s]
    unfold zf_Agreement_voteNominate_48
    simp only [xa_g8 d x _ U hv hs, xa_g0 d x _ U hv hs, Option.bind_some, h8, yh (show Q 2 1 < 2 ^ 32 by omega) (show v < 32 by omega), xa_g6 d x _ U hv hs, zt_6, nI_eq (show b < 2 ^ 31 by omega) (show Q 2 3 < 2 ^ 31 by omega), e48, e49]
    unfold zq_A1
    cases c1 : (Q 2 1).testBit v
    · rw [if_pos (by decide), Bool.false_and, Bool.false_or]
      by_cases c2 : zq_bk v Q 0 b &&& Q 2 1 = 0
      · rw [if_pos c2, c2]; rfl
      · rw [if_neg c2, beq_false_of_ne c2]; rfl
    · rw [if_neg (by decide), Bool.true_and]
      by_cases c3 : b = Q 2 3
      · rw [if_pos c3, c3, beq_self_eq_true, Bool.true_or]; rfl
      · rw [if_neg c3, beq_false_of_ne (fun h => c3 h.symm), Bool.false_or]
        by_cases c2 : zq_bk v Q 0 b &&& Q 2 1 = 0
        · rw [if_pos c2, c2]; rfl
        · rw [if_neg c2, beq_false_of_ne c2]; rfl
theorem yA (hv : v < 5) (hs : s < 3) (hB : zq_B Q) : zf_Agreement_voteNominate (x + qA v s) (zx d x (zt T v s Q) U) = some (nI (zq_A v Q).1.toNat, zx d x (zt T v s (zq_A v Q).2) U) := by
  have h2 : Q 0 2 < 2 ^ 28 := hB.1 2 (by decide)
  have e := yA16 (d := d) (x := x) (T := T) (U := U) hv hs 7 1 8 false Q (by decide) (by decide) hB
  unfold zf_Agreement_voteNominate
  simp only [xa_g3 d x _ U hv hs, Option.bind_some, xs_g3 d x _ U hv hs (show 0 < 3 by decide), zt_co (show 0 < 3 by decide), Nat.mul_zero, Nat.zero_add, zn_eq0 (show Q 0 2 < 2 ^ 31 by omega)]
  unfold zq_A
  by_cases c : Q 0 2 = 0
  · rw [if_pos c, if_pos c]; exact e
  · rw [if_neg c, if_neg c]; rfl
/-- rules B, C -/
theorem yB4 (hT : yTb T) (hv : v < 5) (hs : s < 3) : ∀ (n b f : Nat) (mv : Bool) (Q : zq_Q), b + n = 8 → n < f → zq_B Q →
    zf_Agreement_acceptNominate_4 f (x + qA v s) (nI mv.toNat) (nI b) (zx d x (zt T v s Q) U) = some (nI (zq_loop (zq_acc (yP T) v 0) n b mv Q).1.toNat, zx d x (zt T v s (zq_loop (zq_acc (yP T) v 0) n b mv Q).2) U) := by
  intro n
  induction n with
  | zero =>
    intro b f mv Q hb hf hB
    obtain ⟨f, rfl⟩ : ∃ g, f = g + 1 := ⟨f - 1, by omega⟩
    obtain rfl : b = 8 := by omega
    rw [zf_Agreement_acceptNominate_4, if_pos (nI_lt (by decide) (by decide)), if_pos (zn_b01 mv)]
    rfl
  | succ n ih =>
    intro b f mv Q hb hf hB
    obtain ⟨f, rfl⟩ : ∃ g, f = g + 1 := ⟨f - 1, by omega⟩
    rw [zf_Agreement_acceptNominate_4, if_neg (nI_nlt (by omega) (by omega)), zq_loop_s]
    simp only [xa_g3 d x _ U hv hs, Option.bind_some, xs_c d x _ U hv hs (show 0 < 3 by decide), yacc hT hv hs hB (show 0 < 3 by decide) (show b < 28 by omega), yor, nI_add, zq_ya_0]
    exact ih (b + 1) f _ _ (by omega) (by omega) (zq_acc_B hB (by decide) (by omega))
theorem yC4 (hT : yTb T) (hv : v < 5) (hs : s < 3) : ∀ (n b f : Nat) (mv : Bool) (Q : zq_Q), b + n = 8 → n < f → zq_B Q →
    zf_Agreement_confirmNominate_4 f (x + qA v s) (nI mv.toNat) (nI b) (zx d x (zt T v s Q) U) = some (nI (zq_loop (zq_con (yP T) v 0) n b mv Q).1.toNat, zx d x (zt T v s (zq_loop (zq_con (yP T) v 0) n b mv Q).2) U) := by
  intro n
  induction n with
  | zero =>
    intro b f mv Q hb hf hB
    obtain ⟨f, rfl⟩ : ∃ g, f = g + 1 := ⟨f - 1, by omega⟩
    obtain rfl : b = 8 := by omega
    rw [zf_Agreement_confirmNominate_4, if_pos (nI_lt (by decide) (by decide)), if_pos (zn_b01 mv)]
    rfl
  | succ n ih =>
    intro b f mv Q hb hf hB
    obtain ⟨f, rfl⟩ : ∃ g, f = g + 1 := ⟨f - 1, by omega⟩
    rw [zf_Agreement_confirmNominate_4, if_neg (nI_nlt (by omega) (by omega)), zq_loop_s]
    simp only [xa_g3 d x _ U hv hs, Option.bind_some, xs_c d x _ U hv hs (show 0 < 3 by decide), ycon hT hv hs hB (show 0 < 3 by decide) (show b < 28 by omega), yor, nI_add]
    exact ih (b + 1) f _ _ (by omega) (by omega) (zq_con_B hB (by decide) (by omega))
/-- rules E, F -/
theorem yF4 (hT : yTb T) (hv : v < 5) (hs : s < 3) : ∀ (n b f : Nat) (mv : Bool) (Q : zq_Q), b + n = 28 → n < f → zq_B Q →
    zf_Agreement_confirmPrepare_4 f (x + qA v s) (nI mv.toNat) (nI b) (zx d x (zt T v s Q) U) = some (nI (zq_loop (zq_con (yP T) v 1) n b mv Q).1.toNat, zx d x (zt T v s (zq_loop (zq_con (yP T) v 1) n b mv Q).2) U) := by
  intro n
  induction n with
  | zero =>
    intro b f mv Q hb hf hB
    obtain ⟨f, rfl⟩ : ∃ g, f = g + 1 := ⟨f - 1, by omega⟩
    obtain rfl : b = 28 := by omega
    rw [zf_Agreement_confirmPrepare_4, if_pos (Int32.le_refl _), if_pos (zn_b01 mv)]
    rfl
  | succ n ih =>
    intro b f mv Q hb hf hB
    obtain ⟨f, rfl⟩ : ∃ g, f = g + 1 := ⟨f - 1, by omega⟩
    rw [zf_Agreement_confirmPrepare_4, if_neg (nI_ge (by omega) (by decide)), zq_loop_s]
    simp only [xa_g4 d x _ U hv hs, Option.bind_some, xs_c d x _ U hv hs (show 1 < 3 by decide), ycon hT hv hs hB (show 1 < 3 by decide) (show b < 28 by omega), yor, nI_add]
    exact ih (b + 1) f _ _ (by omega) (by omega) (zq_con_B hB (by decide) (by omega))
theorem yE4 (hT : yTb T) (hv : v < 5) (hs : s < 3) : ∀ (n b f : Nat) (mv : Bool) (Q : zq_Q), b + n = 28 → n < f → zq_B Q →
    zf_Agreement_acceptPrepare_4 f (x + qA v s) (nI mv.toNat) (nI b) (zx d x (zt T v s Q) U) = some (nI (zq_loop (zq_acc (yP T) v 1) n b mv Q).1.toNat, zx d x (zt T v s (zq_loop (zq_acc (yP T) v 1) n b mv Q).2) U) := by
  intro n
  induction n with
  | zero =>
    intro b f mv Q hb hf hB
    obtain ⟨f, rfl⟩ : ∃ g, f = g + 1 := ⟨f - 1, by omega⟩
    obtain rfl : b = 28 := by omega
    rw [zf_Agreement_acceptPrepare_4, if_pos (Int32.le_refl _), if_pos (zn_b01 mv)]
    rfl
  | succ n ih =>
    intro b f mv Q hb hf hB
    obtain ⟨f, rfl⟩ : ∃ g, f = g + 1 := ⟨f - 1, by omega⟩
    have hb28 : b < 28 := by omega
    have h7 : Q 0 (3 * 2 + 1) < 2 ^ 28 := hB.1 _ (by decide)
    have hand : Q 0 (3 * 2 + 1) &&& zq_dn b < 2 ^ 28 := Nat.lt_of_le_of_lt Nat.and_le_left h7
    rw [zf_Agreement_acceptPrepare_4, if_neg (nI_ge (by omega) (by decide)), zq_loop_s]
    unfold zf_Agreement_acceptPrepare_41
    simp only [xa_g5 d x _ U hv hs, xa_g4 d x _ U hv hs, xa_g0 d x _ U hv hs, Option.bind_some, xs_g5 d x _ U hv hs (show 2 < 3 by decide), xc_l d x _ U hv hs (show 2 < 3 by decide) hv, zt_ac (show 2 < 3 by decide) hv, if_true, ydn hb28, zn_and, zn_eq0 (show Q 0 (3 * 2 + 1) &&& zq_dn b < 2 ^ 31 by omega), xs_c d x _ U hv hs (show 1 < 3 by decide), yacc hT hv hs hB (show 1 < 3 by decide) hb28, yor, nI_add]
    rw [ih (b + 1) f _ _ (by omega) (by omega) (zq_ya_B hB (by decide) hb28), ih (b + 1) f _ _ (by omega) (by omega) hB, zq_ya_1]
    by_cases c : Q 0 (3 * 2 + 1) &&& zq_dn b = 0
    · rw [if_pos c, if_pos ((zq_cl_dn hb28 h7).mp c)]
    · rw [if_neg c, if_neg (fun h => c ((zq_cl_dn hb28 h7).mpr h))]
      rfl
/-- rule G -/
theorem zq_cl_or {b : Nat} (hb : b < 28) (hB : zq_B Q) : ((Q 0 (3 * 1) ||| Q 0 (3 * 1 + 1)) &&& zq_up b = 0) ↔ (!(zq_cl Q 1 0 b true) && !(zq_cl Q 1 1 b true)) = true := by
  have e0 := zq_cl_up (Q := Q) (k := 1) (h := 0) hb (hB.1 _ (by decide))
  have e1 := zq_cl_up (Q := Q) (k := 1) (h := 1) hb (hB.1 _ (by decide))
  rw [Nat.and_or_distrib_right, Nat.or_eq_zero_iff]
  rw [Bool.and_eq_true, Bool.not_eq_true', Bool.not_eq_true']
  rw [← e0, ← e1]
theorem yG4 (hv : v < 5) (hs : s < 3) : ∀ (n b f : Nat) (mv : Bool) (Q : zq_Q), b + n = 28 → n < f → zq_B Q →
    zf_Agreement_voteCommit_4 f (x + qA v s) (nI mv.toNat) (nI b) (zx d x (zt T v s Q) U) = some (nI (zq_loop zq_G1 n b mv Q).1.toNat, zx d x (zt T v s (zq_loop zq_G1 n b mv Q).2) U) := by
  intro n
  induction n with
  | zero =>
    intro b f mv Q hb hf hB
    obtain ⟨f, rfl⟩ : ∃ g, f = g + 1 := ⟨f - 1, by omega⟩
    obtain rfl : b = 28 := by omega
    rw [zf_Agreement_voteCommit_4, if_pos (Int32.le_refl _), if_pos (zn_b01 mv)]
    rfl
  | succ n ih =>
    intro b f mv Q hb hf hB
    obtain ⟨f, rfl⟩ : ∃ g, f = g + 1 := ⟨f - 1, by omega⟩
    have hb28 : b < 28 := by omega
    have h5 : Q 0 (3 * 1 + 2) < 2 ^ 28 := hB.1 _ (by decide)
    have h34 : (Q 0 (3 * 1) ||| Q 0 (3 * 1 + 1)) < 2 ^ 28 := Nat.or_lt_two_pow (hB.1 _ (by decide)) (hB.1 _ (by decide))
    have hand : (Q 0 (3 * 1) ||| Q 0 (3 * 1 + 1)) &&& zq_up b < 2 ^ 28 := Nat.lt_of_le_of_lt Nat.and_le_left h34
    rw [zf_Agreement_voteCommit_4, if_neg (nI_ge (by omega) (by decide)), zq_loop_s]
    unfold zf_Agreement_voteCommit_55
    simp only [xa_g5 d x _ U hv hs, xa_g4 d x _ U hv hs, xa_g0 d x _ U hv hs, Option.bind_some, xs_g3 d x _ U hv hs (show 1 < 3 by decide), zt_co (show 1 < 3 by decide), yh (show Q 0 (3 * 1 + 2) < 2 ^ 32 by omega) (show b < 32 by omega), xs_g4 d x _ U hv hs (show 1 < 3 by decide), xb_l d x _ U hv hs (show 1 < 3 by decide) hv, zt_bk (show 1 < 3 by decide) hv, if_true, yup hb28, zn_and, zn_eq0 (show (Q 0 (3 * 1) ||| Q 0 (3 * 1 + 1)) &&& zq_up b < 2 ^ 31 by omega), xs_c d x _ U hv hs (show 2 < 3 by decide), yvote hv hs hB (show 2 < 3 by decide) hb28, yor, nI_add]
    rw [ih (b + 1) f _ _ (by omega) (by omega) (zq_vote_B hB (by decide) hb28), ih (b + 1) f _ _ (by omega) (by omega) hB]
    unfold zq_G1
    have hh : (Q 0 (3 * 1 + 2)).testBit b = zq_has Q 1 2 b := rfl
    rw [hh]
    cases zq_has Q 1 2 b
    · rw [if_pos (by decide), Bool.and_false]; rfl
    · rw [if_neg (by decide), Bool.and_true]
      by_cases c : (Q 0 (3 * 1) ||| Q 0 (3 * 1 + 1)) &&& zq_up b = 0
      · rw [if_pos c, if_pos ((zq_cl_or hb28 hB).mp c)]
      · rw [if_neg c, if_neg (fun h => c ((zq_cl_or hb28 hB).mpr h))]
        rfl
end YR
