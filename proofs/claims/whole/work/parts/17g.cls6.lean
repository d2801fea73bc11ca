/-! The class: the passes, a new round, what an event does first. -/
theorem zq_put_8 {Q : zq_Q} {k h b : Nat} (hn : 3 * k + h ≠ 8) : zq_put Q k h b 0 8 = Q 0 8 := by
  unfold zq_put; rw [u2_i (fun e => hn e.symm)]
theorem zq_vote_8 {Q : zq_Q} {k b : Nat} : (zq_vote Q k b).2 0 8 = Q 0 8 := zq_put_8 (Q := Q) (k := k) (h := 0) (b := b) (by omega)
theorem zq_vp_8 {Q : zq_Q} : zq_vp Q 0 8 = Q 0 8 := by unfold zq_vp; exact zq_vote_8
theorem zq_loop_8 {f : Nat → zq_Q → Bool × zq_Q} (hf : ∀ b Q, (f b Q).2 0 8 = Q 0 8) : ∀ (n b : Nat) (m : Bool) (Q : zq_Q), (zq_loop f n b m Q).2 0 8 = Q 0 8 := by
  intro n
  induction n with
  | zero => intro b m Q; rfl
  | succ n ih => intro b m Q; rw [zq_loop_s, ih, hf]
theorem zq_acc_88 {P : Nat → Nat → Bool} {v k b : Nat} {Q : zq_Q} : (zq_acc P v k b Q).2 0 8 = Q 0 8 := by
  unfold zq_acc; split
  · exact zq_put_8 (by omega)
  · rfl
theorem zq_con_88 {P : Nat → Nat → Bool} {v k b : Nat} {Q : zq_Q} (hk : k < 2) : (zq_con P v k b Q).2 0 8 = Q 0 8 := by
  unfold zq_con; split
  · exact zq_put_8 (by omega)
  · rfl
theorem zq_A_8 {v : Nat} {Q : zq_Q} : (zq_A v Q).2 0 8 = Q 0 8 := by
  unfold zq_A; split
  · refine zq_loop_8 (fun b Q => ?_) 7 1 false Q
    unfold zq_A1; split
    · exact zq_vote_8
    · rfl
  · rfl
theorem zq_D_8 {Q : zq_Q} : (zq_D Q).2 0 8 = Q 0 8 := by
  unfold zq_D; split
  · exact (zq_vp_8 (Q := u2 Q 2 2 1)).trans (u2_k (S := Q) (k := 2) (i := 2) (v := 1) (a := 0) (b := 8) (by decide))
  · rfl
theorem zq_G_8 {Q : zq_Q} : (zq_G Q).2 0 8 = Q 0 8 := by
  unfold zq_G
  refine zq_loop_8 (fun b Q => ?_) 28 0 false Q
  unfold zq_G1; split
  · exact zq_vote_8
  · rfl
theorem zq_pre_8 {P : Nat → Nat → Bool} {v : Nat} {Q : zq_Q} : (zq_pre P v Q).2 0 8 = Q 0 8 := by
  unfold zq_pre zq_p
  rw [zq_G_8, zq_loop_8 (fun b Q => zq_con_88 (by decide)), zq_loop_8 (fun b Q => zq_acc_88), zq_D_8, zq_loop_8 (fun b Q => zq_con_88 (by decide)), zq_loop_8 (fun b Q => zq_acc_88), zq_A_8]
theorem zq_H_8 {P : Nat → Nat → Bool} {v : Nat} : ∀ (n b : Nat) (m : Bool) (Q : zq_Q), (zq_H P v n b m Q).1 = none → (zq_H P v n b m Q).2.2 0 8 = Q 0 8 := by
  intro n
  induction n with
  | zero => intro b m Q _; rfl
  | succ n ih =>
    intro b m Q h
    rw [zq_H_s] at h ⊢
    split at h
    · cases h
    · rename_i hc
      rw [if_neg hc, ih _ _ _ h, zq_acc_88]
section YV
variable {d : za_h} {x : Nat} {T : Nat → Nat → Nat} {U : Nat → Nat → Option Nat} {v s : Nat} {Q : zq_Q}
theorem ystop (hv : v < 5) (hs : s < 3) {b g k : Nat} {c : Int32} : zf_Agreement_stir_4 (g + 1) (x + qA v s) c (nI k) (zx d x (zt (yo T v s (some b)) v s Q) U) = some ((), zx d x (zt (yo T v s (some b)) v s Q) U) := by
  have wb := zq_wo_b b
  have e10 : zt (yo T v s (some b)) v s Q (qA v s) 10 = zq_wo b := by rw [zt_10 (by omega)]; show u2 T (qA v s) 10 (zq_wo b) (qA v s) 10 = _; rw [u2_s]
  rw [zf_Agreement_stir_4]
  unfold zf_Agreement_stir_68
  by_cases h1 : nI 200 ≤ nI k
  · rw [if_pos h1]
  · rw [if_neg h1]
    by_cases h2 : c = 0
    · rw [if_pos h2]
    · rw [if_neg h2, xa_g10 d x _ U hv hs, zbs, e10, if_neg (nI_ne0 (by omega) (by omega))]
theorem ystir4 (hT : yTb T) (hv : v < 5) (hs : s < 3) (h10 : T (qA v s) 10 = 0) : ∀ (f k fuel : Nat) (Q : zq_Q), k + f = 200 → f < fuel → zq_B Q → Q 0 8 = 0 →
    zf_Agreement_stir_4 fuel (x + qA v s) (nI 1) (nI k) (zx d x (zt T v s Q) U) = some ((), zx d x (zt (yo T v s (zq_stir (yP T) v f Q).1) v s (zq_stir (yP T) v f Q).2) U) := by
  intro f
  induction f with
  | zero =>
    intro k fuel Q hk hf hB h8
    obtain ⟨fuel, rfl⟩ : ∃ g, fuel = g + 1 := ⟨fuel - 1, by omega⟩
    obtain rfl : k = 200 := by omega
    rw [zf_Agreement_stir_4, if_pos (Int32.le_refl _)]
    rfl
  | succ f ih =>
    intro k fuel Q hk hf hB h8
    obtain ⟨fuel, rfl⟩ : ∃ g, fuel = g + 1 := ⟨fuel - 1, by omega⟩
    obtain ⟨fuel, rfl⟩ : ∃ g, fuel = g + 1 := ⟨fuel - 1, by omega⟩
    have b1 : zq_B (zq_A v Q).2 := zq_A_B hB
    have b2 := zq_accs_B (P := yP T) (v := v) (k := 0) (n := 7) (lo := 1) (by decide) (by decide) b1
    have b3 := zq_cons_B (P := yP T) (v := v) (k := 0) (n := 7) (lo := 1) (by decide) (by decide) b2
    have b4 := zq_D_B b3
    have b5 := zq_accs_B (P := yP T) (v := v) (k := 1) (n := 28) (lo := 0) (by decide) (by decide) b4
    have b6 := zq_cons_B (P := yP T) (v := v) (k := 1) (n := 28) (lo := 0) (by decide) (by decide) b5
    have b7 := zq_G_B b6
    have r1 := yA (d := d) (x := x) (T := T) (U := U) hv hs hB
    have r2 := yB4 (d := d) (x := x) (U := U) hT hv hs 7 1 8 false _ (by decide) (by decide) b1
    have r3 := yC4 (d := d) (x := x) (U := U) hT hv hs 7 1 8 false _ (by decide) (by decide) b2
    have r4 := yD (d := d) (x := x) (T := T) (U := U) hv hs b3
    have r5 := yE4 (d := d) (x := x) (U := U) hT hv hs 28 0 29 false _ (by decide) (by decide) b4
    have r6 := yF4 (d := d) (x := x) (U := U) hT hv hs 28 0 29 false _ (by decide) (by decide) b5
    have r7 := yG4 (d := d) (x := x) (T := T) (U := U) hv hs 28 0 29 false _ (by decide) (by decide) b6
    have h87 : (zq_pre (yP T) v Q).2 0 8 = 0 := zq_pre_8.trans h8
    have b7' : zq_B (zq_pre (yP T) v Q).2 := b7
    have r8 := yH4 (d := d) (x := x) (U := U) hT hv hs h10 28 0 29 false (zq_pre (yP T) v Q).2 (by decide) (by decide) b7' h87
    have e10 : zt T v s Q (qA v s) 10 = 0 := by rw [zt_10 (by omega), h10]
    rw [zf_Agreement_stir_4, if_neg (nI_ge (by omega) (by decide)), if_neg (by decide), xa_g10 d x _ U hv hs, zbs, e10, if_pos (by decide)]
    have s2 : ∀ σ, zf_Agreement_acceptNominate (x + qA v s) σ = zf_Agreement_acceptNominate_4 8 (x + qA v s) (nI false.toNat) (nI 1) σ := fun _ => rfl
    have s3 : ∀ σ, zf_Agreement_confirmNominate (x + qA v s) σ = zf_Agreement_confirmNominate_4 8 (x + qA v s) (nI false.toNat) (nI 1) σ := fun _ => rfl
    have s5 : ∀ σ, zf_Agreement_acceptPrepare (x + qA v s) σ = zf_Agreement_acceptPrepare_4 29 (x + qA v s) (nI false.toNat) (nI 0) σ := fun _ => rfl
    have s6 : ∀ σ, zf_Agreement_confirmPrepare (x + qA v s) σ = zf_Agreement_confirmPrepare_4 29 (x + qA v s) (nI false.toNat) (nI 0) σ := fun _ => rfl
    have s7 : ∀ σ, zf_Agreement_voteCommit (x + qA v s) σ = zf_Agreement_voteCommit_4 29 (x + qA v s) (nI false.toNat) (nI 0) σ := fun _ => rfl
    have s8 : ∀ σ, zf_Agreement_settleCommit (x + qA v s) σ = zf_Agreement_settleCommit_4 29 (x + qA v s) (nI false.toNat) (nI 0) σ := fun _ => rfl
    have e7 : (zq_loop zq_G1 28 0 false (zq_loop (zq_con (yP T) v 1) 28 0 false (zq_loop (zq_acc (yP T) v 1) 28 0 false (zq_D (zq_loop (zq_con (yP T) v 0) 7 1 false (zq_loop (zq_acc (yP T) v 0) 7 1 false (zq_A v Q).2).2).2).2).2).2).2 = (zq_pre (yP T) v Q).2 := rfl
    simp only [xa_c d x _ U hv hs, zbs, r1, s2, r2, s3, r3, r4, s5, r5, s6, r6, s7, r7, e7, s8, r8, yor, nI_add]
    have e1 : ((zq_H (yP T) v 28 0 false (zq_pre (yP T) v Q).2).2.1 || ((zq_loop zq_G1 28 0 false (zq_loop (zq_con (yP T) v 1) 28 0 false (zq_loop (zq_acc (yP T) v 1) 28 0 false (zq_D (zq_loop (zq_con (yP T) v 0) 7 1 false (zq_loop (zq_acc (yP T) v 0) 7 1 false (zq_A v Q).2).2).2).2).2).2).1 || ((zq_loop (zq_con (yP T) v 1) 28 0 false (zq_loop (zq_acc (yP T) v 1) 28 0 false (zq_D (zq_loop (zq_con (yP T) v 0) 7 1 false (zq_loop (zq_acc (yP T) v 0) 7 1 false (zq_A v Q).2).2).2).2).2).1 || ((zq_loop (zq_acc (yP T) v 1) 28 0 false (zq_D (zq_loop (zq_con (yP T) v 0) 7 1 false (zq_loop (zq_acc (yP T) v 0) 7 1 false (zq_A v Q).2).2).2).2).1 || ((zq_D (zq_loop (zq_con (yP T) v 0) 7 1 false (zq_loop (zq_acc (yP T) v 0) 7 1 false (zq_A v Q).2).2).2).1 || ((zq_loop (zq_con (yP T) v 0) 7 1 false (zq_loop (zq_acc (yP T) v 0) 7 1 false (zq_A v Q).2).2).1 || ((zq_loop (zq_acc (yP T) v 0) 7 1 false (zq_A v Q).2).1 || (zq_A v Q).1))))))) = ((zq_end (yP T) v Q).2.1 || (zq_pre (yP T) v Q).1) := rfl
    rw [e1, zq_stir_s]
    have e2 : zq_H (yP T) v 28 0 false (zq_pre (yP T) v Q).2 = zq_end (yP T) v Q := rfl
    rw [e2]
    have hEB : zq_B (zq_end (yP T) v Q).2.2 := zq_end_B hB
    have hE8 : (zq_end (yP T) v Q).1 = none → (zq_end (yP T) v Q).2.2 0 8 = 0 := fun h => (zq_H_8 28 0 false (zq_pre (yP T) v Q).2 h).trans h87
    generalize zq_end (yP T) v Q = E at hEB hE8 ⊢
    generalize (zq_pre (yP T) v Q).1 = c
    obtain ⟨o, c2, Q2⟩ := E
    cases o with
    | some b => exact ystop hv hs
    | none =>
      show zf_Agreement_stir_4 (fuel + 1) (x + qA v s) (nI (c2 || c).toNat) (nI (k + 1)) (zx d x (zt T v s Q2) U) = some ((), zx d x (zt (yo T v s (if (c2 || c) = true then zq_stir (yP T) v f Q2 else (none, Q2)).1) v s (if (c2 || c) = true then zq_stir (yP T) v f Q2 else (none, Q2)).2) U)
      cases c2 || c
      · rw [if_neg (by decide), zf_Agreement_stir_4]
        by_cases h1 : nI 200 ≤ nI (k + 1)
        · rw [if_pos h1]; rfl
        · rw [if_neg h1, if_pos (by decide)]; rfl
      · rw [if_pos rfl]
        exact ih (k + 1) (fuel + 1) Q2 (by omega) (by omega) hEB (hE8 rfl)
theorem ystir (hT : yTb T) (hv : v < 5) (hs : s < 3) (h10 : T (qA v s) 10 = 0) (hB : zq_B Q) (h8 : Q 0 8 = 0) : zf_Agreement_stir (x + qA v s) (zx d x (zt T v s Q) U) = some ((), zx d x (zt (yo T v s (zq_stir (yP T) v 200 Q).1) v s (zq_stir (yP T) v 200 Q).2) U) := by
  unfold zf_Agreement_stir
  exact ystir4 hT hv hs h10 200 0 201 Q (by decide) (by decide) hB h8
/-- a new round -/
def yc (T : Nat → Nat → Nat) (v : Nat) : Nat := T (3 + v) 1 ||| T (3 + v) 3 ||| 2 ^ v
def ybg (v : Nat) (g : Option (Nat × Nat)) : Int32 × Int32 := match g with
  | none => (nI v, -1)
  | some p => (nI p.1, nI p.2)
theorem ybr35 (hv : v < 5) (hs : s < 3) (hr : Q 2 0 ≤ 2000) (hl : Q 2 1 < 32) {cand : Nat} (hc : cand < 32) (hcv : cand.testBit v = true) : ∀ (n u f : Nat) (g : Option (Nat × Nat)), u + n = 5 → n < f → (∀ p, g = some p → p.1 < 5 ∧ p.2 < 101) → (g ≠ none ∨ u ≤ v) →
    zf_Agreement_beginRound_35 f (x + qA v s) (nI cand) (ybg v g).1 (ybg v g).2 (nI u) (zx d x (zt T v s Q) U) = some ((), zx d x (zt T v s (u2 Q 2 1 (Q 2 1 ||| 2 ^ (match zq_ld cand s (Q 2 0) n u g with | none => 0 | some p => p.1)))) U) := by
  have e8 : zt T v s Q (qA v s) 8 = Q 2 1 := zt_79 (j := 1) (by decide)
  have e7 : zt T v s Q (qA v s) 7 = Q 2 0 := zt_79 (j := 0) (by decide)
  have u8 : ∀ y, u2 (zt T v s Q) (qA v s) 8 y = zt T v s (u2 Q 2 1 y) := fun y => zt_u79 (j := 1) (by decide)
  intro n
  induction n with
  | zero =>
    intro u f g hu hf hg hn
    obtain ⟨f, rfl⟩ : ∃ q, f = q + 1 := ⟨f - 1, by omega⟩
    obtain rfl : u = 5 := by omega
    cases g with
    | none => rcases hn with h | h; exact absurd rfl h; omega
    | some p =>
      have hp := hg p rfl
      rw [zf_Agreement_beginRound_35, if_pos (Int32.le_refl _)]
      simp only [ybg, xa_g8 d x _ U hv hs, zbs, e8, zn_shl (show p.1 < 32 by omega), zn_or, Nat.one_mul, xa_p8 d x _ U _ hv hs, u8]
      rfl
  | succ n ih =>
    intro u f g hu hf hg hn
    obtain ⟨f, rfl⟩ : ∃ q, f = q + 1 := ⟨f - 1, by omega⟩
    have hw : zq_wt s (Q 2 0) u < 101 := Nat.mod_lt _ (by decide)
    rw [zf_Agreement_beginRound_35, if_neg (nI_ge (by omega) (by decide)), zq_ld_s]
    unfold zf_Agreement_beginRound_91
    simp only [xa_g1 d x _ U hv hs, xa_g7 d x _ U hv hs, zbs, e7, yh (show cand < 2 ^ 32 by omega) (show u < 32 by omega), pk_mul, nI_add]
    rw [pk_rem (show (37 * u + 61 * s + 17 * Q 2 0) * 29 < 2 ^ 31 by omega) (by decide) (by decide), show (37 * u + 61 * s + 17 * Q 2 0) * 29 % 101 = zq_wt s (Q 2 0) u from rfl]
    cases hb : cand.testBit u
    · rw [if_pos (by decide)]
      have hnx : zq_nx cand s (Q 2 0) u g = g := by
        unfold zq_nx
        cases g with
        | none => dsimp only; rw [hb]; rfl
        | some p => dsimp only; rw [hb]; rfl
      rw [hnx]
      have hne : u ≠ v := fun h => by rw [h, hcv] at hb; cases hb
      exact ih (u + 1) f g (by omega) (by omega) hg (by rcases hn with h | h; exact Or.inl h; exact Or.inr (by omega))
    · rw [if_neg (by decide)]
      cases g with
      | none =>
        show (if nI (zq_wt s (Q 2 0) u) ≤ (-1 : Int32) then _ else _) = _
        rw [if_neg (by
          intro h
          have h1 := Int32.le_iff_toInt_le.mp h
          rw [nI_toInt (by omega)] at h1
          have h2 : (-1 : Int32).toInt = -1 := by decide
          omega)]
        have hnx : zq_nx cand s (Q 2 0) u none = some (u, zq_wt s (Q 2 0) u) := by
          unfold zq_nx; dsimp only; rw [hb]; rfl
        rw [hnx]
        exact ih (u + 1) f (some (u, zq_wt s (Q 2 0) u)) (by omega) (by omega) (fun p hp => by cases hp; exact ⟨by show u < 5; omega, hw⟩) (Or.inl (fun h => by cases h))
      | some p =>
        have hp := hg p rfl
        show (if nI (zq_wt s (Q 2 0) u) ≤ nI p.2 then _ else _) = _
        by_cases hle : zq_wt s (Q 2 0) u ≤ p.2
        · have hnx : zq_nx cand s (Q 2 0) u (some p) = some p := by
            unfold zq_nx; dsimp only; rw [decide_eq_false (by omega), Bool.and_false]; rfl
          rw [if_pos (nI_le hle (by omega)), hnx]
          exact ih (u + 1) f (some p) (by omega) (by omega) hg (Or.inl (fun h => by cases h))
        · have hnx : zq_nx cand s (Q 2 0) u (some p) = some (u, zq_wt s (Q 2 0) u) := by
            unfold zq_nx; dsimp only; rw [decide_eq_true (by omega), hb]; rfl
          rw [if_neg (nI_ge (by omega) (by omega)), hnx]
          exact ih (u + 1) f (some (u, zq_wt s (Q 2 0) u)) (by omega) (by omega) (fun p hp => by cases hp; exact ⟨by show u < 5; omega, hw⟩) (Or.inl (fun h => by cases h))
theorem yc_tb : (yc T v).testBit v = true := by
  unfold yc; rw [Nat.testBit_or, Nat.testBit_two_pow_self, Bool.or_true]
theorem yc_lt (hT : yTb T) (hv : v < 5) : yc T v < 32 := by
  obtain ⟨-, h1, -, h3⟩ := hT v hv
  exact Nat.or_lt_two_pow (n := 5) (Nat.or_lt_two_pow (n := 5) h1 h3) (Nat.pow_lt_pow_right (by decide) hv)
theorem ybr (hT : yTb T) (hv : v < 5) (hs : s < 3) (hB : zq_B Q) (hr : Q 2 0 ≤ 1999) : zf_Agreement_beginRound (x + qA v s) (zx d x (zt T v s Q) U) = some ((), zx d x (zt T v s (zq_nr (yc T v) s Q)) U) := by
  have e7 : zt T v s Q (qA v s) 7 = Q 2 0 := zt_79 (j := 0) (by decide)
  have u7 : ∀ y, u2 (zt T v s Q) (qA v s) 7 y = zt T v s (u2 Q 2 0 y) := fun y => zt_u79 (j := 0) (by decide)
  have key := ybr35 (d := d) (x := x) (T := T) (U := U) (Q := u2 Q 2 0 (Q 2 0 + 1)) hv hs (by rw [u2_s]; omega) (by rw [u2_i (by decide)]; exact hB.2.2.1) (yc_lt hT hv) yc_tb 5 0 6 none (by decide) (by decide) (fun p h => by cases h) (Or.inr (by omega))
  rw [u2_i (show 1 ≠ 0 by decide), u2_s] at key
  unfold zf_Agreement_beginRound zf_Trust_everyone
  simp only [xa_g7 d x _ U hv hs, zbs, e7, nI_add, xa_p7 d x _ U _ hv hs, u7, xa_g2 d x _ U hv hs, xt_c d x _ U hv, xt_g1 d x _ U hv, xt_g3 d x _ U hv, xa_g0 d x _ U hv hs, zt_tr hv, zn_or, zn_shl (show v < 32 by omega), Nat.one_mul]
  exact key
theorem ytp (hT : yTb T) (hv : v < 5) (hs : s < 3) (hB : zq_B Q) (hr : Q 2 0 ≤ 1999) {y : Nat} (hy : y ≤ 7) : zf_Agreement_takeProposal (x + qA v s) (nI y) (zx d x (zt T v s Q) U) = some ((), zx d x (zt T v s (if Q 2 0 = 0 then zq_nr (yc T v) s (u2 Q 2 3 y) else u2 Q 2 3 y)) U) := by
  have e7 : zt T v s (u2 Q 2 3 y) (qA v s) 7 = Q 2 0 := (zt_79 (j := 0) (by decide)).trans (u2_i (by decide))
  have r := ybr (d := d) (x := x) (U := U) (Q := u2 Q 2 3 y) hT hv hs (zq_B_u23 hB hy) (by rw [u2_i (by decide)]; exact hr)
  unfold zf_Agreement_takeProposal zf_Agreement_takeProposal_16
  simp only [xa_p6 d x _ U _ hv hs, zbs, zt_u6, xa_g7 d x _ U hv hs, e7, xa_c d x _ U hv hs, r, zn_eq0 (show Q 2 0 < 2 ^ 31 by omega)]
  split <;> rfl
theorem yrt (hT : yTb T) (hv : v < 5) (hs : s < 3) (hB : zq_B Q) (hr : Q 2 0 ≤ 1999) : zf_Agreement_runOutOfTime (x + qA v s) (zx d x (zt T v s Q) U) = some ((), zx d x (zt T v s (if zq_comp Q = 0 then zq_nr (yc T v) s Q else if Q 2 2 < 4 then zq_vp (u2 Q 2 2 (Q 2 2 + 1)) else Q)) U) := by
  have e9 : zt T v s Q (qA v s) 9 = Q 2 2 := zt_79 (j := 2) (by decide)
  have hB' := hB.2.2.2.1
  have hcl := zq_comp_lt Q
  unfold zf_Agreement_runOutOfTime zf_Agreement_runOutOfTime_26
  simp only [xa_c d x _ U hv hs, zbs, ycomp hv hs hB, zn_eq0 (show zq_comp Q < 2 ^ 31 by omega), ybr hT hv hs hB hr, xa_g9 d x _ U hv hs, e9, nI_leI (show 4 < 2 ^ 31 by decide) (show Q 2 2 < 2 ^ 31 by omega)]
  by_cases h1 : zq_comp Q = 0
  · rw [if_pos h1, if_pos h1]
  · rw [if_neg h1, if_neg h1]
    by_cases h2 : Q 2 2 < 4
    · rw [if_neg (by omega), if_pos h2, yrc hv hs hB h2 h1, zbs]
    · rw [if_pos (by omega), if_neg h2]
end YV
