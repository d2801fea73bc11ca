/-! 200 passes and 1000 passes come to the same end: a pass that changes something sets one of 161 bits, or the counter. -/
def zq_un (a lo : Nat) : Nat → Nat
  | 0 => 0
  | n + 1 => zq_un a lo n + (if a.testBit (lo + n) then 0 else 1)
theorem zq_un_s {a lo n : Nat} : zq_un a lo (n + 1) = zq_un a lo n + (if a.testBit (lo + n) then 0 else 1) := rfl
theorem zq_un_n {a lo : Nat} : ∀ n, zq_un a lo n ≤ n
  | 0 => Nat.le_refl _
  | n + 1 => by have := @zq_un_n a lo n; rw [zq_un_s]; split <;> omega
theorem zq_orb {a b i : Nat} : (a ||| 2 ^ b).testBit i = (a.testBit i || decide (b = i)) := by
  rw [Nat.testBit_or, Nat.testBit_two_pow]
theorem zq_un_le {a b lo : Nat} : ∀ n, zq_un (a ||| 2 ^ b) lo n ≤ zq_un a lo n
  | 0 => Nat.le_refl _
  | n + 1 => by
    have := @zq_un_le a b lo n
    rw [zq_un_s, zq_un_s, zq_orb]
    cases a.testBit (lo + n) <;> simp <;> (try split) <;> omega
theorem zq_un_lt {a b lo : Nat} (hb : lo ≤ b) (ha : a.testBit b = false) : ∀ n, b < lo + n → zq_un (a ||| 2 ^ b) lo n + 1 ≤ zq_un a lo n
  | 0 => fun h => by omega
  | n + 1 => fun h => by
    rw [zq_un_s, zq_un_s, zq_orb]
    by_cases hn : b = lo + n
    · have := @zq_un_le a b lo n
      rw [← hn, ha, decide_eq_true rfl]
      simp; omega
    · have := zq_un_lt hb ha n (by omega)
      rw [decide_eq_false hn, Bool.or_false]
      omega
def zq_mt (Q : zq_Q) (j : Nat) : Nat := if j < 3 then zq_un (Q 0 j) 1 7 else zq_un (Q 0 j) 0 28
def zq_M (Q : zq_Q) : Nat := zq_mt Q 0 + zq_mt Q 1 + zq_mt Q 2 + zq_mt Q 3 + zq_mt Q 4 + zq_mt Q 5 + zq_mt Q 6 + zq_mt Q 7 + (if Q 2 2 = 0 then 1 else 0)
theorem zq_M_le (Q : zq_Q) : zq_M Q ≤ 162 := by
  have h7 := fun j => @zq_un_n (Q 0 j) 1 7
  have h28 := fun j => @zq_un_n (Q 0 j) 0 28
  unfold zq_M zq_mt
  have a0 := h7 0; have a1 := h7 1; have a2 := h7 2
  have a3 := h28 3; have a4 := h28 4; have a5 := h28 5; have a6 := h28 6; have a7 := h28 7
  simp only [show (0 : Nat) < 3 by decide, show (1 : Nat) < 3 by decide, show (2 : Nat) < 3 by decide, show ¬ (3 : Nat) < 3 by decide, show ¬ (4 : Nat) < 3 by decide, show ¬ (5 : Nat) < 3 by decide, show ¬ (6 : Nat) < 3 by decide, show ¬ (7 : Nat) < 3 by decide, if_true, if_false]
  split <;> omega
theorem zq_mt_o {Q : zq_Q} {j0 j y : Nat} (h : j ≠ j0) : zq_mt (u2 Q 0 j0 y) j = zq_mt Q j := by
  unfold zq_mt; rw [u2_i h]
theorem zq_mt_le {Q : zq_Q} {j b : Nat} : zq_mt (u2 Q 0 j (Q 0 j ||| 2 ^ b)) j ≤ zq_mt Q j := by
  unfold zq_mt; rw [u2_s]; split
  · exact zq_un_le 7
  · exact zq_un_le 28
theorem zq_mt_lt {Q : zq_Q} {j b : Nat} (hb : if j < 3 then 1 ≤ b ∧ b < 8 else b < 28) (h : (Q 0 j).testBit b = false) : zq_mt (u2 Q 0 j (Q 0 j ||| 2 ^ b)) j + 1 ≤ zq_mt Q j := by
  unfold zq_mt; rw [u2_s]
  by_cases hj : j < 3
  · rw [if_pos hj] at hb; rw [if_pos hj, if_pos hj]; exact zq_un_lt hb.1 h 7 (by omega)
  · rw [if_neg hj] at hb; rw [if_neg hj, if_neg hj]; exact zq_un_lt (Nat.zero_le _) h 28 (by omega)
/-- a set of bits at place j: the measure goes by what it does there -/
theorem zq_M_u {Q : zq_Q} {j y c : Nat} (hj : j < 8) (h : zq_mt (u2 Q 0 j y) j + c ≤ zq_mt Q j) : zq_M (u2 Q 0 j y) + c ≤ zq_M Q := by
  have e2 : u2 Q 0 j y 2 2 = Q 2 2 := u2_k (by decide)
  unfold zq_M
  rw [e2]
  have o := fun i (hi : i ≠ j) => @zq_mt_o Q j i y hi
  rcases (show j = 0 ∨ j = 1 ∨ j = 2 ∨ j = 3 ∨ j = 4 ∨ j = 5 ∨ j = 6 ∨ j = 7 by omega) with rfl | rfl | rfl | rfl | rfl | rfl | rfl | rfl
  · rw [o 1 (by decide), o 2 (by decide), o 3 (by decide), o 4 (by decide), o 5 (by decide), o 6 (by decide), o 7 (by decide)]; omega
  · rw [o 0 (by decide), o 2 (by decide), o 3 (by decide), o 4 (by decide), o 5 (by decide), o 6 (by decide), o 7 (by decide)]; omega
  · rw [o 0 (by decide), o 1 (by decide), o 3 (by decide), o 4 (by decide), o 5 (by decide), o 6 (by decide), o 7 (by decide)]; omega
  · rw [o 0 (by decide), o 1 (by decide), o 2 (by decide), o 4 (by decide), o 5 (by decide), o 6 (by decide), o 7 (by decide)]; omega
  · rw [o 0 (by decide), o 1 (by decide), o 2 (by decide), o 3 (by decide), o 5 (by decide), o 6 (by decide), o 7 (by decide)]; omega
  · rw [o 0 (by decide), o 1 (by decide), o 2 (by decide), o 3 (by decide), o 4 (by decide), o 6 (by decide), o 7 (by decide)]; omega
  · rw [o 0 (by decide), o 1 (by decide), o 2 (by decide), o 3 (by decide), o 4 (by decide), o 5 (by decide), o 7 (by decide)]; omega
  · rw [o 0 (by decide), o 1 (by decide), o 2 (by decide), o 3 (by decide), o 4 (by decide), o 5 (by decide), o 6 (by decide)]; omega
theorem zq_M_put {Q : zq_Q} {k h b : Nat} (hj : 3 * k + h < 8) : zq_M (zq_put Q k h b) ≤ zq_M Q := by
  have e : zq_mt (u2 Q 0 (3 * k + h) (Q 0 (3 * k + h) ||| 2 ^ b)) (3 * k + h) + 0 ≤ zq_mt Q (3 * k + h) := by
    rw [Nat.add_zero]; exact zq_mt_le
  have := zq_M_u hj e
  rw [Nat.add_zero] at this
  exact this
theorem zq_M_8 {Q : zq_Q} {y : Nat} : zq_M (u2 Q 0 8 y) = zq_M Q := by
  have e2 : u2 Q 0 8 y 2 2 = Q 2 2 := u2_k (by decide)
  unfold zq_M
  rw [e2, zq_mt_o (by decide), zq_mt_o (by decide), zq_mt_o (by decide), zq_mt_o (by decide), zq_mt_o (by decide), zq_mt_o (by decide), zq_mt_o (by decide), zq_mt_o (by decide)]
theorem zq_M_new {Q : zq_Q} {k h b : Nat} (hj : 3 * k + h < 8) (hb : if 3 * k + h < 3 then 1 ≤ b ∧ b < 8 else b < 28) (hn : zq_has Q k h b = false) : zq_M (zq_put Q k h b) + 1 ≤ zq_M Q := zq_M_u hj (zq_mt_lt hb hn)
def zq_in (k b : Nat) : Prop := if k = 0 then 1 ≤ b ∧ b < 8 else b < 28
theorem zq_in_j {k h b : Nat} (hh : h < 3) (hk : k < 3) (hb : zq_in k b) : if 3 * k + h < 3 then 1 ≤ b ∧ b < 8 else b < 28 := by
  unfold zq_in at hb
  by_cases h0 : k = 0
  · rw [if_pos h0] at hb; rw [if_pos (by omega)]; exact hb
  · rw [if_neg h0] at hb; rw [if_neg (by omega)]; exact hb
theorem zq_M_vote {Q : zq_Q} {k b : Nat} (hk : k < 3) (hb : zq_in k b) : zq_M (zq_vote Q k b).2 + (zq_vote Q k b).1.toNat ≤ zq_M Q := by
  unfold zq_vote
  cases hh : zq_has Q k 0 b
  · exact zq_M_new (by omega) (zq_in_j (by decide) hk hb) hh
  · show zq_M (zq_put Q k 0 b) + 0 ≤ zq_M Q
    rw [Nat.add_zero]
    exact zq_M_put (by omega)
theorem zq_M_acc {P : Nat → Nat → Bool} {v : Nat} {Q : zq_Q} {k b : Nat} (hk : k < 3) (hb : zq_in k b) : zq_M (zq_acc P v k b Q).2 + (zq_acc P v k b Q).1.toNat ≤ zq_M Q := by
  unfold zq_acc
  split
  · rename_i hc
    simp only [Bool.and_eq_true, Bool.not_eq_true'] at hc
    exact zq_M_new (by omega) (zq_in_j (by decide) hk hb) hc.1
  · exact Nat.le_refl _
theorem zq_M_con {P : Nat → Nat → Bool} {v : Nat} {Q : zq_Q} {k b : Nat} (hk : k < 2) (hb : zq_in k b) : zq_M (zq_con P v k b Q).2 + (zq_con P v k b Q).1.toNat ≤ zq_M Q := by
  unfold zq_con
  split
  · rename_i hc
    simp only [Bool.and_eq_true, Bool.not_eq_true'] at hc
    exact zq_M_new (by omega) (zq_in_j (by decide) (by omega) hb) hc.1
  · exact Nat.le_refl _
theorem zq_or_t (a b : Bool) : (a || b).toNat ≤ a.toNat + b.toNat := by cases a <;> cases b <;> decide
theorem zq_M_loop {f : Nat → zq_Q → Bool × zq_Q} {lo hi : Nat} (hf : ∀ b Q, lo ≤ b → b < hi → zq_M (f b Q).2 + (f b Q).1.toNat ≤ zq_M Q) : ∀ (n b : Nat) (m : Bool) (Q : zq_Q), lo ≤ b → b + n ≤ hi → zq_M (zq_loop f n b m Q).2 + (zq_loop f n b m Q).1.toNat ≤ zq_M Q + m.toNat := by
  intro n
  induction n with
  | zero => intro b m Q _ _; exact Nat.le_refl _
  | succ n ih =>
    intro b m Q h1 h2
    rw [zq_loop_s]
    have a := ih (b + 1) ((f b Q).1 || m) (f b Q).2 (by omega) (by omega)
    have c := hf b Q h1 (by omega)
    have e := zq_or_t (f b Q).1 m
    omega
theorem zq_M_A {v : Nat} {Q : zq_Q} : zq_M (zq_A v Q).2 + (zq_A v Q).1.toNat ≤ zq_M Q := by
  unfold zq_A; split
  · refine zq_M_loop (lo := 1) (hi := 8) (fun b Q h1 h2 => ?_) 7 1 false Q (by decide) (by decide)
    unfold zq_A1; split
    · exact zq_M_vote (by decide) (by unfold zq_in; rw [if_pos rfl]; exact ⟨h1, h2⟩)
    · exact Nat.le_refl _
  · exact Nat.le_refl _
theorem zq_M_G {Q : zq_Q} : zq_M (zq_G Q).2 + (zq_G Q).1.toNat ≤ zq_M Q := by
  unfold zq_G
  refine zq_M_loop (lo := 0) (hi := 28) (fun b Q h1 h2 => ?_) 28 0 false Q (by decide) (by decide)
  unfold zq_G1; split
  · exact zq_M_vote (by decide) (by unfold zq_in; rw [if_neg (by decide)]; exact h2)
  · exact Nat.le_refl _
theorem zq_M_22 {Q : zq_Q} (h : Q 2 2 = 0) : zq_M (u2 Q 2 2 1) + 1 ≤ zq_M Q := by
  have e : ∀ j, zq_mt (u2 Q 2 2 1) j = zq_mt Q j := fun j => by unfold zq_mt; rw [u2_k (by decide)]
  unfold zq_M
  rw [e, e, e, e, e, e, e, e, u2_s, h]
  simp
theorem zq_M_vp {Q : zq_Q} : zq_M (zq_vp Q) ≤ zq_M Q := by
  unfold zq_vp zq_vote
  exact zq_M_put (k := 1) (h := 0) (by decide)
theorem zq_M_D {Q : zq_Q} : zq_M (zq_D Q).2 + (zq_D Q).1.toNat ≤ zq_M Q := by
  unfold zq_D; split
  · rename_i hc
    exact Nat.le_trans (Nat.add_le_add_right (zq_M_vp (Q := u2 Q 2 2 1)) 1) (zq_M_22 hc.1)
  · exact Nat.le_refl _
theorem zq_M_p {f : zq_Q → Bool × zq_Q} {r : Bool × zq_Q} {N : Nat} (hf : ∀ Q, zq_M (f Q).2 + (f Q).1.toNat ≤ zq_M Q) (hr : zq_M r.2 + r.1.toNat ≤ N) : zq_M (zq_p f r).2 + (zq_p f r).1.toNat ≤ N := by
  unfold zq_p
  have a := hf r.2
  have e := zq_or_t (f r.2).1 r.1
  show zq_M (f r.2).2 + ((f r.2).1 || r.1).toNat ≤ N
  omega
theorem zq_in_0 {b : Nat} (h1 : 1 ≤ b) (h2 : b < 8) : zq_in 0 b := by unfold zq_in; rw [if_pos rfl]; exact ⟨h1, h2⟩
theorem zq_in_1 {k b : Nat} (hk : k ≠ 0) (h2 : b < 28) : zq_in k b := by unfold zq_in; rw [if_neg hk]; exact h2
theorem zq_M_pre {P : Nat → Nat → Bool} {v : Nat} {Q : zq_Q} : zq_M (zq_pre P v Q).2 + (zq_pre P v Q).1.toNat ≤ zq_M Q := by
  unfold zq_pre
  refine zq_M_p (fun Q => zq_M_G) (zq_M_p (fun Q => zq_M_loop (lo := 0) (hi := 28) (fun b Q _ h => zq_M_con (by decide) (zq_in_1 (by decide) h)) 28 0 false Q (by decide) (by decide)) (zq_M_p (fun Q => zq_M_loop (lo := 0) (hi := 28) (fun b Q _ h => zq_M_acc (by decide) (zq_in_1 (by decide) h)) 28 0 false Q (by decide) (by decide)) (zq_M_p (fun Q => zq_M_D) (zq_M_p (fun Q => zq_M_loop (lo := 1) (hi := 8) (fun b Q h1 h => zq_M_con (by decide) (zq_in_0 h1 h)) 7 1 false Q (by decide) (by decide)) (zq_M_p (fun Q => zq_M_loop (lo := 1) (hi := 8) (fun b Q h1 h => zq_M_acc (by decide) (zq_in_0 h1 h)) 7 1 false Q (by decide) (by decide)) zq_M_A)))))
theorem zq_M_H {P : Nat → Nat → Bool} {v : Nat} : ∀ (n b : Nat) (m : Bool) (Q : zq_Q), b + n ≤ 28 → zq_M (zq_H P v n b m Q).2.2 + (zq_H P v n b m Q).2.1.toNat ≤ zq_M Q + m.toNat := by
  intro n
  induction n with
  | zero => intro b m Q _; exact Nat.le_refl _
  | succ n ih =>
    intro b m Q h
    have a := zq_M_acc (P := P) (v := v) (Q := Q) (show 2 < 3 by decide) (zq_in_1 (by decide) (show b < 28 by omega))
    have e := zq_or_t (zq_acc P v 2 b Q).1 m
    rw [zq_H_s]
    split
    · show zq_M (u2 (zq_acc P v 2 b Q).2 0 8 _) + ((zq_acc P v 2 b Q).1 || m).toNat ≤ _
      rw [zq_M_8]; omega
    · have c := ih (b + 1) ((zq_acc P v 2 b Q).1 || m) (zq_acc P v 2 b Q).2 (by omega)
      omega
theorem zq_M_end {P : Nat → Nat → Bool} {v : Nat} {Q : zq_Q} : zq_M (zq_end P v Q).2.2 + ((zq_end P v Q).2.1 || (zq_pre P v Q).1).toNat ≤ zq_M Q := by
  have a := zq_M_pre (P := P) (v := v) (Q := Q)
  have b := zq_M_H (P := P) (v := v) 28 0 false (zq_pre P v Q).2 (by decide)
  have e := zq_or_t (zq_end P v Q).2.1 (zq_pre P v Q).1
  have b' : zq_M (zq_end P v Q).2.2 + (zq_end P v Q).2.1.toNat ≤ zq_M (zq_pre P v Q).2 + 0 := b
  omega
theorem zq_stir_eq {P : Nat → Nat → Bool} {v : Nat} : ∀ (f g : Nat) (Q : zq_Q), zq_M Q < f → zq_M Q < g → zq_stir P v f Q = zq_stir P v g Q := by
  intro f
  induction f with
  | zero => intro g Q h; omega
  | succ f ih =>
    intro g Q h1 h2
    obtain ⟨g, rfl⟩ : ∃ k, g = k + 1 := ⟨g - 1, by omega⟩
    have hm := zq_M_end (P := P) (v := v) (Q := Q)
    rw [zq_stir_s, zq_stir_s]
    generalize zq_end P v Q = E at hm ⊢
    generalize (zq_pre P v Q).1 = c at hm ⊢
    obtain ⟨o, c2, Q2⟩ := E
    cases o with
    | some b => rfl
    | none =>
      show (if (c2 || c) = true then _ else _) = (if (c2 || c) = true then _ else _)
      replace hm : zq_M Q2 + (c2 || c).toNat ≤ zq_M Q := hm
      cases hcc : c2 || c
      · rfl
      · rw [hcc] at hm
        have : zq_M Q2 + 1 ≤ zq_M Q := hm
        rw [if_pos rfl, if_pos rfl]
        exact ih g Q2 (by omega) (by omega)
theorem zq_stir_200 {P : Nat → Nat → Bool} {v : Nat} {Q : zq_Q} : zq_stir P v 200 Q = zq_stir P v 1000 Q := by
  have := zq_M_le Q
  exact zq_stir_eq 200 1000 Q (by omega) (by omega)
theorem zq_stir_c {P P' : Nat → Nat → Bool} (h : P = P') {v f : Nat} {Q : zq_Q} : zq_stir P v f Q = zq_stir P' v f Q := by rw [h]
