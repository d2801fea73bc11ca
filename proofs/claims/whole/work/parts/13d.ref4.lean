/-! The reference: the rules but the last. -/
theorem zq_loop_s {f : Nat → zq_Q → Bool × zq_Q} {n b : Nat} {mv : Bool} {Q : zq_Q} : zq_loop f (n + 1) b mv Q = zq_loop f n (b + 1) ((f b Q).1 || mv) (f b Q).2 := rfl
theorem zq_top_s {Q : zq_Q} {c n : Nat} : zq_top Q c (n + 1) = if zq_has Q 1 2 n then zq_wo n else zq_top Q c n := rfl
section RW
variable {S : Nat → Nat → Nat} {v : Nat} {d : za_h} {m : Nat} {Q : zq_Q}
theorem zs_comp (hC : zc S v) (hB : zq_B Q) : zf_Mo_composite m (nI v) (zr d m (zw S v Q)) = some (nI (zq_comp Q), zr d m (zw S v Q)) := by
  have st : ∀ {x a n : Nat}, x < 8 → zf_Mo_composite_4 (n + 1) m (nI v) (nI a) (nI x) (zr d m (zw S v Q)) = zf_Mo_composite_4 n m (nI v) (nI (if zq_has Q 0 2 x then a ||| x else a)) (nI (x + 1)) (zr d m (zw S v Q)) := by
    intro x a n hx
    rw [zf_Mo_composite_4, if_neg (nI_ge hx (by decide))]
    unfold zf_Mo_composite_28
    simp only [zr_gc, Option.bind_some, zs_has hC hB (show 0 < 3 by decide) (show 2 < 3 by decide) (show x < 28 by omega), nI_add, zn_or]
    cases zq_has Q 0 2 x
    · rw [if_pos (by decide)]; rfl
    · rw [if_neg (by decide)]; rfl
  unfold zf_Mo_composite
  rw [st (by decide), st (by decide), st (by decide), st (by decide), st (by decide), st (by decide), st (by decide), zf_Mo_composite_4, if_pos (Int32.le_refl _)]
  rfl
theorem zq_comp_lt (Q : zq_Q) : zq_comp Q < 8 := by
  have st : ∀ (x a : Nat) (p : Bool), x < 8 → a < 8 → (if p then a ||| x else a) < 8 := by
    intro x a p hx ha
    cases p
    · exact ha
    · exact Nat.or_lt_two_pow (n := 3) ha hx
  exact st 7 _ _ (by decide) (st 6 _ _ (by decide) (st 5 _ _ (by decide) (st 4 _ _ (by decide) (st 3 _ _ (by decide) (st 2 _ _ (by decide) (st 1 _ _ (by decide) (by decide)))))))
theorem zq_wo_b (b : Nat) : 1 ≤ zq_wo b ∧ zq_wo b ≤ 7 := by unfold zq_wo; omega
theorem zq_top_b {Q : zq_Q} {c : Nat} (hc : c < 8) : ∀ n, zq_top Q c n < 8 ∧ (c ≠ 0 → zq_top Q c n ≠ 0)
  | 0 => ⟨hc, fun h => h⟩
  | n + 1 => by
    unfold zq_top
    split
    · have := zq_wo_b n; omega
    · exact zq_top_b hc n
theorem zs_toP3 (hC : zc S v) (hB : zq_B Q) : ∀ (n f : Nat), n ≤ 28 → n < f → zf_Mo_toPrepare_3 f m (nI v) (nI n + (-1)) (zr d m (zw S v Q)) = some (nI (zq_top Q (zq_comp Q) n), zr d m (zw S v Q)) := by
  intro n
  induction n with
  | zero =>
    intro f hn hf
    obtain ⟨f, rfl⟩ : ∃ g, f = g + 1 := ⟨f - 1, by omega⟩
    rw [zf_Mo_toPrepare_3, if_pos (by decide)]
    simp only [zr_gc, Option.bind_some, zs_comp hC hB]
    rfl
  | succ n ih =>
    intro f hn hf
    obtain ⟨f, rfl⟩ : ∃ g, f = g + 1 := ⟨f - 1, by omega⟩
    rw [pk_m1, zf_Mo_toPrepare_3, if_neg (zn_lt0 (by omega))]
    simp only [zr_gc, Option.bind_some, zs_has hC hB (show 1 < 3 by decide) (show 2 < 3 by decide) (show n < 28 by omega), zs_worth (show n < 2 ^ 30 by omega), ih f (by omega) (by omega)]
    rw [zq_top_s]
    cases zq_has Q 1 2 n
    · rw [if_pos (by decide)]; rfl
    · rw [if_neg (by decide)]; rfl
theorem zs_toP (hC : zc S v) (hB : zq_B Q) : zf_Mo_toPrepare m (nI v) (zr d m (zw S v Q)) = some (nI (zq_toP Q), zr d m (zw S v Q)) := by
  unfold zf_Mo_toPrepare
  rw [show nI 27 = nI 28 + (-1) by decide, zs_toP3 hC hB 28 29 (by decide) (by decide)]
  rfl
theorem zq_toP_b {Q : zq_Q} (h : zq_comp Q ≠ 0) : 1 ≤ zq_toP Q ∧ zq_toP Q ≤ 7 := by
  have := zq_top_b (Q := Q) (zq_comp_lt Q) 28
  unfold zq_toP
  have h2 := this.2 h
  omega
theorem zs_votePrepare (hC : zc S v) (hB : zq_B Q) (hc : 1 ≤ Q 2 2) (hp : zq_comp Q ≠ 0) : ∃ r : Int32, zf_Mo_votePrepare m (nI v) (zr d m (zw S v Q)) = some (r, zr d m (zw S v (zq_vp Q))) := by
  have hB' := hB.2.2.2.1
  obtain ⟨t1, t2⟩ := zq_toP_b hp
  have hv := hC.1
  unfold zf_Mo_votePrepare
  have e10 : zw S v Q 10 v = Q 2 2 := zw_2 (k := 2) (by decide)
  simp only [zr_gc, Option.bind_some, zs_toP hC hB, zr_g10, zr_l10 hv, e10]
  rw [pk_sub hc, pk_mul, nI_add, pk_sub (by omega)]
  have hp := zs_put (m := m) (d := d) (k := 1) (h := 0) (b := 7 * (Q 2 2 - 1) + zq_toP Q - 1) hC hB (by decide) (by decide) (by omega)
  rw [hp]
  simp only [Option.bind_some, z01, if_true]
  exact ⟨_, rfl⟩
theorem zq_acc_B {P : Nat → Nat → Bool} {k b : Nat} (hB : zq_B Q) (hk : k < 3) (hb : b < 28) : zq_B (zq_acc P v k b Q).2 := by
  unfold zq_acc
  split
  · exact zq_put_B hB (by omega) hb
  · exact hB
theorem zq_con_B {P : Nat → Nat → Bool} {k b : Nat} (hB : zq_B Q) (hk : k < 3) (hb : b < 28) : zq_B (zq_con P v k b Q).2 := by
  unfold zq_con
  split
  · exact zq_put_B hB (by omega) hb
  · exact hB
theorem zq_loop_B {f : Nat → zq_Q → Bool × zq_Q} (hf : ∀ b Q, b < 28 → zq_B Q → zq_B (f b Q).2) : ∀ (n b : Nat) (mv : Bool) (Q : zq_Q), b + n ≤ 28 → zq_B Q → zq_B (zq_loop f n b mv Q).2 := by
  intro n
  induction n with
  | zero => intro b mv Q _ h; exact h
  | succ n ih => intro b mv Q hb h; exact ih (b + 1) _ _ (by omega) (hf b Q (by omega) h)
theorem zs_accept6 (hC : zc S v) {k hi : Nat} (hk : k < 3) (hh : hi < 28) : ∀ (r b f : Nat) (mv : Bool) (Q : zq_Q), b + r = hi + 1 → r < f → zq_B Q → zf_Mo_accept_6 f m (nI v) (nI k) (nI hi) (nI mv.toNat) (nI b) (zr d m (zw S v Q)) = some (nI (zq_loop (zq_acc (zs_P S) v k) r b mv Q).1.toNat, zr d m (zw S v (zq_loop (zq_acc (zs_P S) v k) r b mv Q).2)) := by
  intro r
  induction r with
  | zero =>
    intro b f mv Q hb hf hB
    obtain ⟨f, rfl⟩ : ∃ g, f = g + 1 := ⟨f - 1, by omega⟩
    rw [zf_Mo_accept_6, if_pos (nI_lt (by omega) (by omega))]
    simp only [z01, if_true]
    rfl
  | succ r ih =>
    intro b f mv Q hb hf hB
    obtain ⟨f, rfl⟩ : ∃ g, f = g + 1 := ⟨f - 1, by omega⟩
    have hlt : b < 28 := by omega
    have hn : ∀ (p : Bool) (Q' : zq_Q), zq_B Q' → zf_Mo_accept_60 (zf_Mo_accept_6 f) m (nI v) (nI k) (nI hi) (nI p.toNat) (nI b) (zr d m (zw S v Q')) = some (nI (zq_loop (zq_acc (zs_P S) v k) r (b + 1) p Q').1.toNat, zr d m (zw S v (zq_loop (zq_acc (zs_P S) v k) r (b + 1) p Q').2)) := by
      intro p Q' hB'
      unfold zf_Mo_accept_60
      rw [nI_add]
      exact ih (b + 1) f p Q' (by omega) (by omega) hB'
    rw [zf_Mo_accept_6, if_neg (nI_nlt (by omega) (by omega))]
    unfold zf_Mo_accept_53 zf_Mo_accept_58
    simp only [zr_gc, Option.bind_some, zs_has hC hB hk (show 1 < 3 by decide) hlt, zs_mayAccept hC hB hk hlt, zs_put hC hB hk (show 1 < 3 by decide) hlt]
    unfold zq_loop zq_acc
    cases h1 : zq_has Q k 1 b
    · rw [if_pos (by decide)]
      cases h2 : zq_may (zs_P S) v Q k b
      · rw [if_pos (by decide)]
        exact hn mv Q hB
      · rw [if_neg (by decide), if_neg (by decide)]
        exact hn true _ (zq_put_B hB (by omega) hlt)
    · rw [if_neg (by decide)]
      exact hn mv Q hB
theorem zs_confirm6 (hC : zc S v) {k hi : Nat} (hk : k < 3) (hh : hi < 28) : ∀ (r b f : Nat) (mv : Bool) (Q : zq_Q), b + r = hi + 1 → r < f → zq_B Q → zf_Mo_confirm_6 f m (nI v) (nI k) (nI hi) (nI mv.toNat) (nI b) (zr d m (zw S v Q)) = some (nI (zq_loop (zq_con (zs_P S) v k) r b mv Q).1.toNat, zr d m (zw S v (zq_loop (zq_con (zs_P S) v k) r b mv Q).2)) := by
  intro r
  induction r with
  | zero =>
    intro b f mv Q hb hf hB
    obtain ⟨f, rfl⟩ : ∃ g, f = g + 1 := ⟨f - 1, by omega⟩
    rw [zf_Mo_confirm_6, if_pos (nI_lt (by omega) (by omega))]
    simp only [z01, if_true]
    rfl
  | succ r ih =>
    intro b f mv Q hb hf hB
    obtain ⟨f, rfl⟩ : ∃ g, f = g + 1 := ⟨f - 1, by omega⟩
    have hlt : b < 28 := by omega
    have hn : ∀ (p : Bool) (Q' : zq_Q), zq_B Q' → zf_Mo_confirm_60 (zf_Mo_confirm_6 f) m (nI v) (nI k) (nI hi) (nI p.toNat) (nI b) (zr d m (zw S v Q')) = some (nI (zq_loop (zq_con (zs_P S) v k) r (b + 1) p Q').1.toNat, zr d m (zw S v (zq_loop (zq_con (zs_P S) v k) r (b + 1) p Q').2)) := by
      intro p Q' hB'
      unfold zf_Mo_confirm_60
      rw [nI_add]
      exact ih (b + 1) f p Q' (by omega) (by omega) hB'
    rw [zf_Mo_confirm_6, if_neg (nI_nlt (by omega) (by omega))]
    unfold zf_Mo_confirm_53 zf_Mo_confirm_58
    simp only [zr_gc, Option.bind_some, zs_has hC hB hk (show 2 < 3 by decide) hlt, zs_mayConfirm hC hB hk hlt, zs_put hC hB hk (show 2 < 3 by decide) hlt]
    unfold zq_loop zq_con
    cases h1 : zq_has Q k 2 b
    · rw [if_pos (by decide)]
      cases h2 : zq_cf (zs_P S) v Q k b
      · rw [if_pos (by decide)]
        exact hn mv Q hB
      · rw [if_neg (by decide), if_neg (by decide)]
        exact hn true _ (zq_put_B hB (by omega) hlt)
    · rw [if_neg (by decide)]
      exact hn mv Q hB
theorem zs_accept (hC : zc S v) (hB : zq_B Q) {k lo hi n : Nat} (hk : k < 3) (hh : hi < 28) (hn : lo + n = hi + 1) : zf_Mo_accept m (nI v) (nI k) (nI lo) (nI hi) (zr d m (zw S v Q)) = some (nI (zq_loop (zq_acc (zs_P S) v k) n lo false Q).1.toNat, zr d m (zw S v (zq_loop (zq_acc (zs_P S) v k) n lo false Q).2)) := by
  unfold zf_Mo_accept
  exact zs_accept6 hC hk hh n lo 29 false Q hn (by omega) hB
theorem zs_confirm (hC : zc S v) (hB : zq_B Q) {k lo hi n : Nat} (hk : k < 3) (hh : hi < 28) (hn : lo + n = hi + 1) : zf_Mo_confirm m (nI v) (nI k) (nI lo) (nI hi) (zr d m (zw S v Q)) = some (nI (zq_loop (zq_con (zs_P S) v k) n lo false Q).1.toNat, zr d m (zw S v (zq_loop (zq_con (zs_P S) v k) n lo false Q).2)) := by
  unfold zf_Mo_confirm
  exact zs_confirm6 hC hk hh n lo 29 false Q hn (by omega) hB
theorem zs_ruleD (hC : zc S v) (hB : zq_B Q) : zf_Mo_ruleD m (nI v) (zr d m (zw S v Q)) = some (nI (zq_D Q).1.toNat, zr d m (zw S v (zq_D Q).2)) := by
  have hv := hC.1
  have hB' := hB.2.2.2.1
  have e10 : zw S v Q 10 v = Q 2 2 := zw_2 (k := 2) (by decide)
  have hcl := zq_comp_lt Q
  have u10 : u2 (zw S v Q) 10 v 1 = zw S v (u2 Q 2 2 1) := zw_u2 (k := 2) (by decide)
  unfold zf_Mo_ruleD zf_Mo_ruleD_17 zq_D
  simp only [zr_gc, Option.bind_some, zr_g10, zr_l10 hv, e10, zs_comp hC hB, zr_s10 hv, u10, zn_eq0 (show Q 2 2 < 2 ^ 31 by omega), zn_eq0 (show zq_comp Q < 2 ^ 31 by omega)]
  by_cases h1 : Q 2 2 = 0
  · rw [if_pos h1]
    by_cases h2 : zq_comp Q = 0
    · rw [if_pos h2, if_neg (by simp [h2])]; rfl
    · rw [if_neg h2, if_pos ⟨h1, h2⟩]
      have hB2 : zq_B (u2 Q 2 2 1) := ⟨fun j hj => by rw [u2_k (by decide)]; exact hB.1 j hj, fun j hj => by rw [u2_k (by decide)]; exact hB.2.1 j hj, by rw [u2_i (by decide)]; exact hB.2.2.1, by rw [u2_s]; decide, by rw [u2_i (by decide)]; exact hB.2.2.2.2⟩
      have hc2 : zq_comp (u2 Q 2 2 1) = zq_comp Q := by
        have : ∀ x, zq_has (u2 Q 2 2 1) 0 2 x = zq_has Q 0 2 x := fun x => by unfold zq_has; rw [u2_k (by decide)]
        unfold zq_comp
        simp only [this]
      obtain ⟨r, hr⟩ := zs_votePrepare (m := m) (d := d) hC hB2 (by rw [u2_s]; decide) (by rw [hc2]; exact h2)
      rw [hr]
      simp only [Option.bind_some]
      rfl
  · rw [if_neg h1, if_neg (by simp [h1])]; rfl
theorem zs_ruleG4 (hC : zc S v) : ∀ (r b f : Nat) (mv : Bool) (Q : zq_Q), b + r = 28 → r < f → zq_B Q → zf_Mo_ruleG_4 f m (nI v) (nI mv.toNat) (nI b) (zr d m (zw S v Q)) = some (nI (zq_loop zq_G1 r b mv Q).1.toNat, zr d m (zw S v (zq_loop zq_G1 r b mv Q).2)) := by
  intro r
  induction r with
  | zero =>
    intro b f mv Q hb hf hB
    obtain ⟨f, rfl⟩ : ∃ g, f = g + 1 := ⟨f - 1, by omega⟩
    obtain rfl : b = 28 := by omega
    rw [zf_Mo_ruleG_4, if_pos (Int32.le_refl _)]
    simp only [z01, if_true]
    rfl
  | succ r ih =>
    intro b f mv Q hb hf hB
    obtain ⟨f, rfl⟩ : ∃ g, f = g + 1 := ⟨f - 1, by omega⟩
    have hlt : b < 28 := by omega
    have hn : ∀ (p : Bool) (Q' : zq_Q), zq_B Q' → zf_Mo_ruleG_78 (zf_Mo_ruleG_4 f) m (nI v) (nI p.toNat) (nI b) (zr d m (zw S v Q')) = some (nI (zq_loop zq_G1 r (b + 1) p Q').1.toNat, zr d m (zw S v (zq_loop zq_G1 r (b + 1) p Q').2)) := by
      intro p Q' hB'
      unfold zf_Mo_ruleG_78
      rw [nI_add]
      exact ih (b + 1) f p Q' (by omega) (by omega) hB'
    have c0 := zs_clash (m := m) (d := d) (k := 1) (h := 0) (b := b) (over := true) hC hB (by decide) (by decide) hlt
    have c1 := zs_clash (m := m) (d := d) (k := 1) (h := 1) (b := b) (over := true) hC hB (by decide) (by decide) hlt
    rw [ztn] at c0 c1
    rw [zf_Mo_ruleG_4, if_neg (nI_ge hlt (by decide))]
    unfold zf_Mo_ruleG_38 zf_Mo_ruleG_39 zf_Mo_ruleG_72 zf_Mo_ruleG_77
    simp only [zr_gc, Option.bind_some, c0, c1, zs_has hC hB (show 1 < 3 by decide) (show 2 < 3 by decide) hlt, zs_put hC hB (show 2 < 3 by decide) (show 0 < 3 by decide) hlt, z00, z10, if_true, if_false]
    have hpB := zq_put_B (k := 2) (h := 0) hB (by decide) hlt
    unfold zq_loop zq_G1 zq_vote
    cases h1 : zq_cl Q 1 0 b true
    · rw [if_pos (by decide)]
      cases h2 : zq_cl Q 1 1 b true
      · rw [if_pos (by decide)]
        cases h3 : zq_has Q 1 2 b
        · rw [if_pos (by decide)]
          exact hn mv Q hB
        · rw [if_neg (by decide)]
          cases h4 : zq_has Q 2 0 b
          · rw [if_neg (by decide)]
            exact hn true _ hpB
          · rw [if_pos (by decide)]
            cases mv
            · rw [if_pos (by decide)]; exact hn false _ hpB
            · rw [if_neg (by decide)]; exact hn true _ hpB
      · rw [if_neg (by decide)]
        exact hn mv Q hB
    · rw [if_neg (by decide)]
      exact hn mv Q hB
theorem zs_ruleG (hC : zc S v) (hB : zq_B Q) : zf_Mo_ruleG m (nI v) (zr d m (zw S v Q)) = some (nI (zq_G Q).1.toNat, zr d m (zw S v (zq_G Q).2)) := by
  unfold zf_Mo_ruleG zq_G
  exact zs_ruleG4 hC 28 0 29 false Q (by decide) (by decide) hB
theorem zs_ruleA21 (hC : zc S v) : ∀ (r b f : Nat) (mv : Bool) (Q : zq_Q), b + r = 8 → r < f → zq_B Q → zf_Mo_ruleA_21 f m (nI v) (nI mv.toNat) (nI b) (zr d m (zw S v Q)) = some (nI (zq_loop (zq_A1 v) r b mv Q).1.toNat, zr d m (zw S v (zq_loop (zq_A1 v) r b mv Q).2)) := by
  intro r
  induction r with
  | zero =>
    intro b f mv Q hb hf hB
    obtain ⟨f, rfl⟩ : ∃ g, f = g + 1 := ⟨f - 1, by omega⟩
    obtain rfl : b = 8 := by omega
    rw [zf_Mo_ruleA_21, if_pos (Int32.le_refl _)]
    simp only [z01, if_true]
    rfl
  | succ r ih =>
    intro b f mv Q hb hf hB
    obtain ⟨f, rfl⟩ : ∃ g, f = g + 1 := ⟨f - 1, by omega⟩
    have hlt : b < 28 := by omega
    have hv := hC.1
    have hl := hB.2.2.1
    have hpr := hB.2.2.2.2
    have hpB := zq_put_B (k := 0) (h := 0) hB (by decide) hlt
    have hbk : zq_bk v Q 0 b < 32 := zq_b5_lt _
    have e9 : zw S v Q 9 v = Q 2 1 := zw_2 (k := 1) (by decide)
    have e11 : zw S v Q 11 v = Q 2 3 := zw_2 (k := 3) (by decide)
    have hn : ∀ (p : Bool) (Q' : zq_Q), zq_B Q' → zf_Mo_ruleA_106 (zf_Mo_ruleA_21 f) m (nI v) (nI p.toNat) (nI b) (zr d m (zw S v Q')) = some (nI (zq_loop (zq_A1 v) r (b + 1) p Q').1.toNat, zr d m (zw S v (zq_loop (zq_A1 v) r (b + 1) p Q').2)) := by
      intro p Q' hB'
      unfold zf_Mo_ruleA_106
      rw [nI_add]
      exact ih (b + 1) f p Q' (by omega) (by omega) hB'
    have e85 : zf_Mo_ruleA_85 (zf_Mo_ruleA_21 f) m (nI v) (nI mv.toNat) (nI b) (zr d m (zw S v Q)) = some (nI (zq_loop (zq_A1 v) r (b + 1) ((!zq_has Q 0 0 b) || mv) (zq_put Q 0 0 b)).1.toNat, zr d m (zw S v (zq_loop (zq_A1 v) r (b + 1) ((!zq_has Q 0 0 b) || mv) (zq_put Q 0 0 b)).2)) := by
      unfold zf_Mo_ruleA_85 zf_Mo_ruleA_100 zf_Mo_ruleA_105
      simp only [zr_gc, Option.bind_some, zs_put hC hB (show 0 < 3 by decide) (show 0 < 3 by decide) hlt]
      cases h4 : zq_has Q 0 0 b
      · rw [if_neg (by decide)]
        exact hn true _ hpB
      · rw [if_pos (by decide)]
        cases mv
        · rw [if_pos (by decide)]; exact hn false _ hpB
        · rw [if_neg (by decide)]; exact hn true _ hpB
    rw [zf_Mo_ruleA_21, if_neg (nI_ge (by omega) (by decide))]
    unfold zf_Mo_ruleA_65 zf_Mo_ruleA_66
    have hand : zq_bk v Q 0 b &&& Q 2 1 < 2 ^ 31 := Nat.lt_of_le_of_lt Nat.and_le_left (by omega)
    simp only [zr_gc, Option.bind_some, zs_bk hC hB (show 0 < 3 by decide) hlt, zr_g9, zr_l9 hv, e9, zr_g11, zr_l11 hv, e11, zn_and, zn_bit (show Q 2 1 < 2 ^ 31 by omega) (show v < 32 by omega), zn_eq0 hand, nI_eq (show Q 2 3 < 2 ^ 31 by omega) (show b < 2 ^ 31 by omega), z00, z10, if_true, if_false, e85, hn mv Q hB]
    rw [zq_loop_s]
    have hyes : ((Q 2 1).testBit v && Q 2 3 == b || !(zq_bk v Q 0 b &&& Q 2 1 == 0)) = true → zq_A1 v b Q = (!zq_has Q 0 0 b, zq_put Q 0 0 b) := fun h => by unfold zq_A1 zq_vote; rw [if_pos h]
    have hno : ((Q 2 1).testBit v && Q 2 3 == b || !(zq_bk v Q 0 b &&& Q 2 1 == 0)) = false → zq_A1 v b Q = (false, Q) := fun h => by unfold zq_A1 zq_vote; rw [h]; rfl
    cases h1 : (Q 2 1).testBit v
    · rw [if_neg (by decide)]
      by_cases h3 : zq_bk v Q 0 b &&& Q 2 1 = 0
      · rw [if_pos h3, hno (by simp [h1, h3])]; rfl
      · rw [if_neg h3, hyes (by simp [h3])]
    · rw [if_pos (by decide)]
      by_cases h2 : Q 2 3 = b
      · rw [if_pos h2, hyes (by simp [h1, h2])]
      · rw [if_neg h2]
        by_cases h3 : zq_bk v Q 0 b &&& Q 2 1 = 0
        · rw [if_pos h3, hno (by simp [h2, h3])]; rfl
        · rw [if_neg h3, hyes (by simp [h3])]
theorem zs_ruleA (hC : zc S v) (hB : zq_B Q) : zf_Mo_ruleA m (nI v) (zr d m (zw S v Q)) = some (nI (zq_A v Q).1.toNat, zr d m (zw S v (zq_A v Q).2)) := by
  have hv := hC.1
  have hs := hC.2.1
  have hb := hB.1 2 (by decide)
  unfold zf_Mo_ruleA zq_A
  simp only [zr_gc, Option.bind_some, zr_g12, zs_place hC (show 0 < 3 by decide) (show 2 < 3 by decide), Nat.reduceMul, Nat.reduceAdd, zr_l12 (show 27 * v + 9 * S 7 v + 2 < 135 by omega), zw_12 (show 2 < 9 by decide), zn_eq0 (show Q 0 2 < 2 ^ 31 by omega)]
  by_cases h : Q 0 2 = 0
  · rw [if_pos h, if_pos h]
    exact zs_ruleA21 hC 7 1 8 false Q (by decide) (by decide) hB
  · rw [if_neg h, if_neg h]; rfl
end RW
