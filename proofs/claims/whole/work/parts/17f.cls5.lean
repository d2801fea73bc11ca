/-! The class: composite, ballots, the last rule, the passes, a new round. -/
section YU
variable {d : za_h} {x : Nat} {T : Nat → Nat → Nat} {U : Nat → Nat → Option Nat} {v s : Nat} {Q : zq_Q}
theorem zt_S2 {j y k c i : Nat} : zt T v s (u2 Q 2 j y) (qS v s 0 + (3 * k + c)) i = zt T v s Q (qS v s 0 + (3 * k + c)) i := by
  have ha := @qAS v s
  unfold zt
  simp only [u2_k (show (0 : Nat) ≠ 2 by decide), u2_k (show (1 : Nat) ≠ 2 by decide)]
  rw [if_neg (by omega), if_neg (by omega), if_neg (show ¬ (qS v s 0 + (3 * k + c) = qA v s ∧ i = 6) by omega), if_neg (show ¬ (qS v s 0 + (3 * k + c) = qA v s ∧ 7 ≤ i ∧ i < 10) by omega)]
theorem zt_u79 {j y : Nat} (hj : j < 3) : u2 (zt T v s Q) (qA v s) (7 + j) y = zt T v s (u2 Q 2 j y) := by
  have ha := @qAS v s
  refine zt_ext (fun q i hq => ?_) (fun i => ?_) (fun k c i hk hc => ?_)
  · rw [u2_k (by omega), zt_out hq]
  · by_cases h : i = 7 + j
    · subst h; rw [u2_s, zt_79 hj, u2_s]
    · rw [u2_i h]
      by_cases h6 : i = 6
      · subst h6; rw [zt_6, zt_6, u2_i (by omega)]
      · by_cases h7 : 7 ≤ i ∧ i < 10
        · obtain ⟨i', rfl⟩ : ∃ i', i = 7 + i' := ⟨i - 7, by omega⟩
          rw [zt_79 (by omega), zt_79 (by omega), u2_i (by omega)]
        · rw [zt_10 (by omega), zt_10 (by omega)]
  · rw [qS_e, u2_k (by omega), zt_S2]
theorem zt_u6 {y : Nat} : u2 (zt T v s Q) (qA v s) 6 y = zt T v s (u2 Q 2 3 y) := by
  have ha := @qAS v s
  refine zt_ext (fun q i hq => ?_) (fun i => ?_) (fun k c i hk hc => ?_)
  · rw [u2_k (by omega), zt_out hq]
  · by_cases h : i = 6
    · subst h; rw [u2_s, zt_6, u2_s]
    · rw [u2_i h]
      by_cases h7 : 7 ≤ i ∧ i < 10
      · obtain ⟨i', rfl⟩ : ∃ i', i = 7 + i' := ⟨i - 7, by omega⟩
        rw [zt_79 (by omega), zt_79 (by omega), u2_i (by omega)]
      · rw [zt_10 (by omega), zt_10 (by omega)]
  · rw [qS_e, u2_k (by omega), zt_S2]
theorem zt_u10 {y : Nat} : u2 (zt T v s Q) (qA v s) 10 y = zt (u2 T (qA v s) 10 y) v s Q := by
  have ha := @qAS v s
  funext q i
  by_cases hc : q = qA v s ∧ i = 10
  · obtain ⟨rfl, rfl⟩ := hc
    rw [u2_s, zt_10 (by omega), u2_s]
  · have e : ∀ R : Nat → Nat → Nat, u2 R (qA v s) 10 y q i = R q i := fun R => by unfold u2; rw [if_neg hc]
    rw [e]
    unfold zt
    rw [e]
theorem ycomp (hv : v < 5) (hs : s < 3) (hB : zq_B Q) : zf_Agreement_composite (x + qA v s) (zx d x (zt T v s Q) U) = some (nI (zq_comp Q), zx d x (zt T v s Q) U) := by
  have h2 : Q 0 (3 * 0 + 2) < 2 ^ 28 := hB.1 _ (by decide)
  have st : ∀ {y a n : Nat}, y < 8 → zf_Agreement_composite_4 (n + 1) (x + qA v s) (nI a) (nI y) (zx d x (zt T v s Q) U) = zf_Agreement_composite_4 n (x + qA v s) (nI (if zq_has Q 0 2 y then a ||| y else a)) (nI (y + 1)) (zx d x (zt T v s Q) U) := by
    intro y a n hy
    rw [zf_Agreement_composite_4, if_neg (nI_nlt (by omega) (by omega))]
    unfold zf_Agreement_composite_28
    simp only [xa_g3 d x _ U hv hs, Option.bind_some, xs_g3 d x _ U hv hs (show 0 < 3 by decide), zt_co (show 0 < 3 by decide), yh (show Q 0 (3 * 0 + 2) < 2 ^ 32 by omega) (show y < 32 by omega), nI_add, zn_or]
    have hh : (Q 0 (3 * 0 + 2)).testBit y = zq_has Q 0 2 y := rfl
    rw [hh]
    cases zq_has Q 0 2 y
    · rw [if_pos (by decide)]; rfl
    · rw [if_neg (by decide)]; rfl
  unfold zf_Agreement_composite
  rw [st (by decide), st (by decide), st (by decide), st (by decide), st (by decide), st (by decide), st (by decide), zf_Agreement_composite_4, if_pos (nI_lt (by decide) (by decide))]
  rfl
theorem yvtp (hv : v < 5) (hs : s < 3) (hB : zq_B Q) : zf_Agreement_valueToPrepare (x + qA v s) (zx d x (zt T v s Q) U) = some (nI (zq_toP Q), zx d x (zt T v s Q) U) := by
  have h5 : Q 0 (3 * 1 + 2) < 2 ^ 28 := hB.1 _ (by decide)
  have st : ∀ (n f : Nat), n ≤ 28 → n < f → zf_Agreement_valueToPrepare_3 f (x + qA v s) (nI n + (-1)) (zx d x (zt T v s Q) U) = some (nI (zq_top Q (zq_comp Q) n), zx d x (zt T v s Q) U) := by
    intro n
    induction n with
    | zero =>
      intro f hn hf
      obtain ⟨f, rfl⟩ : ∃ g, f = g + 1 := ⟨f - 1, by omega⟩
      rw [zf_Agreement_valueToPrepare_3, if_pos (by decide)]
      simp only [xa_c d x _ U hv hs, Option.bind_some, ycomp hv hs hB]
      rfl
    | succ n ih =>
      intro f hn hf
      obtain ⟨f, rfl⟩ : ∃ g, f = g + 1 := ⟨f - 1, by omega⟩
      rw [pk_m1, zf_Agreement_valueToPrepare_3, if_neg (zn_lt0 (by omega))]
      simp only [xa_g4 d x _ U hv hs, Option.bind_some, xs_g3 d x _ U hv hs (show 1 < 3 by decide), zt_co (show 1 < 3 by decide), yh (show Q 0 (3 * 1 + 2) < 2 ^ 32 by omega) (show n < 32 by omega), yvo (show n < 2 ^ 30 by omega), ih f (by omega) (by omega)]
      rw [zq_top_s]
      have hh : (Q 0 (3 * 1 + 2)).testBit n = zq_has Q 1 2 n := rfl
      rw [hh]
      cases zq_has Q 1 2 n
      · rw [if_pos (by decide)]; rfl
      · rw [if_neg (by decide)]; rfl
  unfold zf_Agreement_valueToPrepare
  rw [show nI 27 = nI 28 + (-1) by decide, st 28 29 (by decide) (by decide)]
  rfl
theorem zbs {α β : Type} {a : α} {f : α → Option β} : (some a).bind f = f a := (fun (h : f a = f a) => h) rfl
theorem yrc_a {c : Int32} {σ : za_h} {w : Nat} {g : Option (Int32 × za_h)} {t b : Int32} {σ' : za_h} (h1 : g = some (t, σ)) (h2 : zf_TL_ballotOf c t σ = some (b, σ)) (h3 : zg_c σ w 7 = some ()) {r : Int32} (h4 : zf_Statements_vote w b σ = some (r, σ')) : (g.bind fun (r10, σ11) => (zf_TL_ballotOf c r10 σ11).bind fun (r13, σ14) => (zg_c σ14 w 7).bind fun _ => (zf_Statements_vote w r13 σ14).bind fun (r17, σ18) => (some ((), σ18) : Option (Unit × za_h))) = some ((), σ') := by
  rw [h1, zbs]
  dsimp only
  rw [h2, zbs]
  dsimp only
  rw [h3, zbs]
  rw [h4, zbs]
theorem yrc (hv : v < 5) (hs : s < 3) (hB : zq_B Q) (hc : Q 2 2 < 4) (hp : zq_comp Q ≠ 0) : zf_Agreement_raiseCounter (x + qA v s) (zx d x (zt T v s Q) U) = some ((), zx d x (zt T v s (zq_vp (u2 Q 2 2 (Q 2 2 + 1)))) U) := by
  have e9 : ∀ Q, zt T v s Q (qA v s) 9 = Q 2 2 := fun Q => zt_79 (j := 2) (by decide)
  have u9 : ∀ y, u2 (zt T v s Q) (qA v s) 9 y = zt T v s (u2 Q 2 2 y) := fun y => zt_u79 (j := 2) (by decide)
  have hB2 : zq_B (u2 Q 2 2 (Q 2 2 + 1)) := zq_B_u22 hB (by omega)
  have hp2 : zq_comp (u2 Q 2 2 (Q 2 2 + 1)) ≠ 0 := by rw [zq_comp_u2]; exact hp
  have hc2 : u2 Q 2 2 (Q 2 2 + 1) 2 2 = Q 2 2 + 1 := u2_s
  unfold zf_Agreement_raiseCounter
  rw [xa_g9 d x _ U hv hs, zbs, e9, nI_add, xa_p9 d x _ U _ hv hs, zbs, u9]
  generalize u2 Q 2 2 (Q 2 2 + 1) = Q' at hB2 hp2 hc2 ⊢
  obtain ⟨t1, t2⟩ := zq_toP_b hp2
  have hb : 7 * (Q' 2 2 - 1) + zq_toP Q' - 1 < 28 := by omega
  have key := yvote (d := d) (x := x) (T := T) (U := U) (Q := Q') hv hs hB2 (show 1 < 3 by decide) hb
  have hbo := ybo (c := Q' 2 2) (by omega) t1
  rw [xa_g4 d x _ U hv hs, zbs, xa_g9 d x _ U hv hs, zbs, xa_c d x _ U hv hs, zbs, e9]
  exact yrc_a (yvtp hv hs hB2) (hbo _) (xs_c d x _ U hv hs (show 1 < 3 by decide)) key
theorem yD (hv : v < 5) (hs : s < 3) (hB : zq_B Q) : zf_Agreement_beginPrepare (x + qA v s) (zx d x (zt T v s Q) U) = some (nI (zq_D Q).1.toNat, zx d x (zt T v s (zq_D Q).2) U) := by
  have hB' := hB.2.2.2.1
  have hcl := zq_comp_lt Q
  have e9 : zt T v s Q (qA v s) 9 = Q 2 2 := zt_79 (j := 2) (by decide)
  unfold zf_Agreement_beginPrepare zf_Agreement_beginPrepare_14 zq_D
  simp only [xa_g9 d x _ U hv hs, Option.bind_some, e9, xa_c d x _ U hv hs, ycomp hv hs hB, zn_eq0 (show Q 2 2 < 2 ^ 31 by omega), zn_eq0 (show zq_comp Q < 2 ^ 31 by omega)]
  by_cases h1 : Q 2 2 = 0
  · rw [if_pos h1]
    by_cases h2 : zq_comp Q = 0
    · rw [if_pos h2, if_neg (by simp [h2])]; rfl
    · rw [if_neg h2, if_pos ⟨h1, h2⟩, yrc hv hs hB (by omega) h2, h1]
      rfl
  · rw [if_neg h1, if_neg (by simp [h1])]; rfl
/-- the outcome's register -/
def yo (T : Nat → Nat → Nat) (v s : Nat) (o : Option Nat) : Nat → Nat → Nat := match o with
  | none => T
  | some b => u2 T (qA v s) 10 (zq_wo b)
theorem zq_acc_8 {P : Nat → Nat → Bool} {k b : Nat} (h8 : Q 0 8 = 0) : (zq_acc P v k b Q).2 0 8 = 0 ∨ 3 * k + 1 = 8 := by
  unfold zq_acc
  split
  · unfold zq_put
    by_cases h : 3 * k + 1 = 8
    · exact Or.inr h
    · refine Or.inl ?_
      show u2 Q 0 (3 * k + 1) (Q 0 (3 * k + 1) ||| 2 ^ b) 0 8 = 0
      rw [u2_i (fun e => h e.symm)]; exact h8
  · exact Or.inl h8
theorem yH4 (hT : yTb T) (hv : v < 5) (hs : s < 3) (h10 : T (qA v s) 10 = 0) : ∀ (n b f : Nat) (mv : Bool) (Q : zq_Q), b + n = 28 → n < f → zq_B Q → Q 0 8 = 0 →
    zf_Agreement_settleCommit_4 f (x + qA v s) (nI mv.toNat) (nI b) (zx d x (zt T v s Q) U) = some (nI (zq_H (yP T) v n b mv Q).2.1.toNat, zx d x (zt (yo T v s (zq_H (yP T) v n b mv Q).1) v s (zq_H (yP T) v n b mv Q).2.2) U) := by
  intro n
  induction n with
  | zero =>
    intro b f mv Q hb hf hB h8
    obtain ⟨f, rfl⟩ : ∃ g, f = g + 1 := ⟨f - 1, by omega⟩
    obtain rfl : b = 28 := by omega
    rw [zf_Agreement_settleCommit_4, if_pos (Int32.le_refl _)]
    unfold zf_Agreement_settleCommit_73
    rw [if_pos (zn_b01 mv)]
    rfl
  | succ n ih =>
    intro b f mv Q hb hf hB h8
    obtain ⟨f, rfl⟩ : ∃ g, f = g + 1 := ⟨f - 1, by omega⟩
    have hb28 : b < 28 := by omega
    have h4 : Q 0 (3 * 1 + 1) < 2 ^ 28 := hB.1 _ (by decide)
    have hand : Q 0 (3 * 1 + 1) &&& zq_up b < 2 ^ 28 := Nat.lt_of_le_of_lt Nat.and_le_left h4
    have wb := zq_wo_b b
    have e48 : ∀ (p : Bool) (Q1 : zq_Q), zq_B Q1 → Q1 0 8 = 0 → zf_Agreement_settleCommit_48 (zf_Agreement_settleCommit_4 f) (x + qA v s) (nI p.toNat) (nI b) (zx d x (zt T v s Q1) U) = some (nI (if zq_cf (yP T) v Q1 2 b then (some b, p, zq_put Q1 2 2 b) else zq_H (yP T) v n (b + 1) p Q1).2.1.toNat, zx d x (zt (yo T v s (if zq_cf (yP T) v Q1 2 b then (some b, p, zq_put Q1 2 2 b) else zq_H (yP T) v n (b + 1) p Q1).1) v s (if zq_cf (yP T) v Q1 2 b then (some b, p, zq_put Q1 2 2 b) else zq_H (yP T) v n (b + 1) p Q1).2.2) U) := by
      intro p Q1 hB1 h81
      have hh : zq_has Q1 2 2 b = false := by unfold zq_has; rw [h81, Nat.zero_testBit]
      unfold zf_Agreement_settleCommit_48 zf_Agreement_settleCommit_67
      simp only [xa_g5 d x _ U hv hs, Option.bind_some, xs_c d x _ U hv hs (show 2 < 3 by decide), ycon hT hv hs hB1 (show 2 < 3 by decide) hb28, yvo (show b < 2 ^ 30 by omega), xa_p10 d x _ U _ hv hs, zt_u10, nI_add]
      unfold zq_con
      rw [hh, Bool.not_false, Bool.true_and]
      cases hcf : zq_cf (yP T) v Q1 2 b
      · simp only [Bool.false_eq_true, if_false]
        rw [if_pos (by decide)]
        exact ih (b + 1) f p Q1 (by omega) (by omega) hB1 h81
      · simp only [if_true]
        rw [if_neg (by decide)]
        obtain ⟨f, rfl⟩ : ∃ g, f = g + 1 := ⟨f - 1, by omega⟩
        rw [zf_Agreement_settleCommit_4]
        unfold zf_Agreement_settleCommit_73
        rw [if_pos (zn_b01 p)]
        by_cases hlast : nI 28 ≤ nI (b + 1)
        · rw [if_pos hlast]; rfl
        · rw [if_neg hlast]
          have e10 : zt (u2 T (qA v s) 10 (zq_wo b)) v s (zq_put Q1 2 2 b) (qA v s) 10 = zq_wo b := by rw [zt_10 (by omega), u2_s]
          simp only [xa_g10 d x _ U hv hs, Option.bind_some, e10, zn_eq0 (show zq_wo b < 2 ^ 31 by omega)]
          rw [if_neg (by omega)]; rfl
    have e10 : zt T v s Q (qA v s) 10 = 0 := by rw [zt_10 (by omega), h10]
    rw [zf_Agreement_settleCommit_4, if_neg (nI_ge (by omega) (by decide)), zq_H_s]
    simp only [xa_g10 d x _ U hv hs, xa_g5 d x _ U hv hs, xa_g4 d x _ U hv hs, xa_g0 d x _ U hv hs, Option.bind_some, e10, z00, if_true, xs_g5 d x _ U hv hs (show 1 < 3 by decide), xc_l d x _ U hv hs (show 1 < 3 by decide) hv, zt_ac (show 1 < 3 by decide) hv, yup hb28, zn_and, zn_eq0 (show Q 0 (3 * 1 + 1) &&& zq_up b < 2 ^ 31 by omega), xs_c d x _ U hv hs (show 2 < 3 by decide), yacc hT hv hs hB (show 2 < 3 by decide) hb28, yor]
    have h8a : (zq_acc (yP T) v 2 b Q).2 0 8 = 0 := (zq_acc_8 h8).resolve_right (by decide)
    have hBa : zq_B (zq_acc (yP T) v 2 b Q).2 := zq_acc_B hB (by decide) hb28
    rw [zq_ya_2] at h8a hBa ⊢
    by_cases c : Q 0 (3 * 1 + 1) &&& zq_up b = 0
    · have c' := (zq_cl_up hb28 h4).mp c
      rw [if_pos c'] at h8a hBa ⊢
      rw [if_pos c]
      exact e48 _ _ hBa h8a
    · have c' := fun h => c ((zq_cl_up hb28 h4).mpr h)
      rw [if_neg c'] at h8a hBa ⊢
      rw [if_neg c]
      exact e48 mv Q hB h8
end YU
