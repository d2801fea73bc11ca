/-! The reference: the last rule, the passes, a new round. -/
theorem zq_H_s {P : Nat → Nat → Bool} {v n b : Nat} {mv : Bool} {Q : zq_Q} : zq_H P v (n + 1) b mv Q = if zq_cf P v (zq_acc P v 2 b Q).2 2 b then (some b, (zq_acc P v 2 b Q).1 || mv, zq_put (zq_acc P v 2 b Q).2 2 2 b) else zq_H P v n (b + 1) ((zq_acc P v 2 b Q).1 || mv) (zq_acc P v 2 b Q).2 := rfl
/-- one pass of all rules: the outcome's ballot if any, whether something changed, the registers -/
def zq_p1 (v : Nat) (r : Bool × zq_Q) : Bool × zq_Q := ((zq_A v r.2).1 || r.1, (zq_A v r.2).2)
def zq_p (f : zq_Q → Bool × zq_Q) (r : Bool × zq_Q) : Bool × zq_Q := ((f r.2).1 || r.1, (f r.2).2)
def zq_pre (P : Nat → Nat → Bool) (v : Nat) (Q : zq_Q) : Bool × zq_Q :=
  zq_p zq_G (zq_p (zq_loop (zq_con P v 1) 28 0 false) (zq_p (zq_loop (zq_acc P v 1) 28 0 false) (zq_p zq_D (zq_p (zq_loop (zq_con P v 0) 7 1 false) (zq_p (zq_loop (zq_acc P v 0) 7 1 false) (zq_A v Q))))))
def zq_end (P : Nat → Nat → Bool) (v : Nat) (Q : zq_Q) : Option Nat × Bool × zq_Q := zq_H P v 28 0 false (zq_pre P v Q).2
def zq_stir (P : Nat → Nat → Bool) (v : Nat) : Nat → zq_Q → Option Nat × zq_Q
  | 0, Q => (none, Q)
  | f + 1, Q => match (zq_end P v Q).1 with
    | some b => (some b, (zq_end P v Q).2.2)
    | none => if (zq_end P v Q).2.1 || (zq_pre P v Q).1 then zq_stir P v f (zq_end P v Q).2.2 else (none, (zq_end P v Q).2.2)
theorem zq_stir_s {P : Nat → Nat → Bool} {v f : Nat} {Q : zq_Q} : zq_stir P v (f + 1) Q = match (zq_end P v Q).1 with
    | some b => (some b, (zq_end P v Q).2.2)
    | none => if (zq_end P v Q).2.1 || (zq_pre P v Q).1 then zq_stir P v f (zq_end P v Q).2.2 else (none, (zq_end P v Q).2.2) := rfl
def zs_res (S : Nat → Nat → Nat) (v : Nat) (r : Option Nat × zq_Q) : Nat → Nat → Nat := match r.1 with
  | none => zw S v r.2
  | some b => zs_ext (zw S v r.2) v (zq_wo b)
section RG
variable {S : Nat → Nat → Nat} {v : Nat} {d : za_h} {m : Nat} {Q : zq_Q}
/-- what holds of the node whose rules run, with its ledger -/
def zcl (S : Nat → Nat → Nat) (v : Nat) : Prop := zc S v ∧ zi_tx S ∧ zl_B (zv_get S v)
theorem zs_extw (hC : zcl S v) {x : Nat} (hx : x < 8) : zf_Mo_externalize m (nI v) (nI x) (zr d m (zw S v Q)) = some ((), zr d m (zs_ext (zw S v Q) v x)) := by
  obtain ⟨hc, ht, hL⟩ := hC
  refine zs_extz hc.1 (by rw [zw_row (by omega)]; exact hc.2.1) ?_ ?_ hx
  · intro k hk
    have := ht k hk
    unfold zb_tx at this ⊢
    rw [zw_row (by omega), zw_row (by omega), zw_row (by omega), zw_row (by omega), zw_row (by omega), zw_row (by omega)]
    exact this
  · have : zv_get (zw S v Q) v = zv_get S v := by
      funext j i; unfold zv_get
      rw [zw_row (by omega), zw_row (by omega), zw_row (show 27 + j < 8 ∨ 13 < 27 + j by omega)]
    rw [this]; exact hL
theorem zs_ruleH4 (hC : zcl S v) : ∀ (r b f : Nat) (mv : Bool) (Q : zq_Q), b + r = 28 → r < f → zq_B Q → zf_Mo_ruleH_4 f m (nI v) (nI mv.toNat) (nI b) (zr d m (zw S v Q)) = some (match (zq_H (zs_P S) v r b mv Q).1 with | none => nI (zq_H (zs_P S) v r b mv Q).2.1.toNat | some _ => nI 2, zr d m (zs_res S v ((zq_H (zs_P S) v r b mv Q).1, (zq_H (zs_P S) v r b mv Q).2.2))) := by
  intro r
  induction r with
  | zero =>
    intro b f mv Q hb hf hB
    obtain ⟨f, rfl⟩ : ∃ g, f = g + 1 := ⟨f - 1, by omega⟩
    obtain rfl : b = 28 := by omega
    rw [zf_Mo_ruleH_4, if_pos (Int32.le_refl _)]
    rfl
  | succ r ih =>
    intro b f mv Q hb hf hB
    obtain ⟨f, rfl⟩ : ∃ g, f = g + 1 := ⟨f - 1, by omega⟩
    have hlt : b < 28 := by omega
    have hacc := zs_accept (m := m) (d := d) (n := 1) hC.1 hB (show 2 < 3 by decide) hlt (lo := b) rfl
    have hB1 : zq_B (zq_acc (zs_P S) v 2 b Q).2 := zq_acc_B hB (by decide) hlt
    have hl1 : zq_loop (zq_acc (zs_P S) v 2) 1 b false Q = ((zq_acc (zs_P S) v 2 b Q).1 || false, (zq_acc (zs_P S) v 2 b Q).2) := rfl
    rw [hl1, Bool.or_false] at hacc
    generalize hq1 : zq_acc (zs_P S) v 2 b Q = q1 at hacc hB1
    obtain ⟨c1, Q1⟩ := q1
    have wb := zq_wo_b b
    have h30 : ∀ p : Bool, zf_Mo_ruleH_30 (zf_Mo_ruleH_4 f) m (nI v) (nI b) (nI p.toNat) (zr d m (zw S v Q1)) = some (match (if zq_cf (zs_P S) v Q1 2 b then (some b, p, zq_put Q1 2 2 b) else zq_H (zs_P S) v r (b + 1) p Q1).1 with | none => nI (if zq_cf (zs_P S) v Q1 2 b then (some b, p, zq_put Q1 2 2 b) else zq_H (zs_P S) v r (b + 1) p Q1).2.1.toNat | some _ => nI 2, zr d m (zs_res S v ((if zq_cf (zs_P S) v Q1 2 b then (some b, p, zq_put Q1 2 2 b) else zq_H (zs_P S) v r (b + 1) p Q1).1, (if zq_cf (zs_P S) v Q1 2 b then (some b, p, zq_put Q1 2 2 b) else zq_H (zs_P S) v r (b + 1) p Q1).2.2))) := by
      intro p
      unfold zf_Mo_ruleH_30
      simp only [zr_gc, Option.bind_some, zs_mayConfirm hC.1 hB1 (show 2 < 3 by decide) hlt, zs_put hC.1 hB1 (show 2 < 3 by decide) (show 2 < 3 by decide) hlt, zs_worth (show b < 2 ^ 30 by omega), zs_extw hC (show zq_wo b < 8 by omega)]
      cases hcf : zq_cf (zs_P S) v Q1 2 b
      · rw [if_pos (by decide), nI_add]
        exact ih (b + 1) f p Q1 (by omega) (by omega) hB1
      · rw [if_neg (by decide)]
        rfl
    rw [zf_Mo_ruleH_4, if_neg (nI_ge hlt (by decide))]
    simp only [zr_gc, Option.bind_some, hacc]
    rw [zq_H_s, hq1]
    cases c1
    · rw [if_pos (by decide)]
      exact h30 mv
    · rw [if_neg (by decide)]
      exact h30 true
theorem zs_ruleH (hC : zcl S v) (hB : zq_B Q) : zf_Mo_ruleH m (nI v) (zr d m (zw S v Q)) = some (match (zq_H (zs_P S) v 28 0 false Q).1 with | none => nI (zq_H (zs_P S) v 28 0 false Q).2.1.toNat | some _ => nI 2, zr d m (zs_res S v ((zq_H (zs_P S) v 28 0 false Q).1, (zq_H (zs_P S) v 28 0 false Q).2.2))) := by
  unfold zf_Mo_ruleH
  exact zs_ruleH4 hC 28 0 29 false Q (by decide) (by decide) hB
theorem zq_D_B (hB : zq_B Q) : zq_B (zq_D Q).2 := by
  unfold zq_D
  split
  · rename_i hc
    have hB2 : zq_B (u2 Q 2 2 1) := ⟨fun j hj => by rw [u2_k (by decide)]; exact hB.1 j hj, fun j hj => by rw [u2_k (by decide)]; exact hB.2.1 j hj, by rw [u2_i (by decide)]; exact hB.2.2.1, by rw [u2_s]; decide, by rw [u2_i (by decide)]; exact hB.2.2.2.2⟩
    have ht := zq_top_b (Q := u2 Q 2 2 1) (zq_comp_lt (u2 Q 2 2 1)) 28
    refine zq_put_B (k := 1) (h := 0) hB2 (by decide) ?_
    rw [u2_s]
    unfold zq_toP
    omega
  · exact hB
theorem zq_vote_B {k b : Nat} (hB : zq_B Q) (hk : k < 3) (hb : b < 28) : zq_B (zq_vote Q k b).2 := zq_put_B hB (by omega) hb
theorem zq_A_B (hB : zq_B Q) : zq_B (zq_A v Q).2 := by
  unfold zq_A
  split
  · refine zq_loop_B (fun b Q hb h => ?_) 7 1 false Q (by decide) hB
    unfold zq_A1
    split
    · exact zq_vote_B h (by decide) hb
    · exact h
  · exact hB
theorem zq_G_B (hB : zq_B Q) : zq_B (zq_G Q).2 := by
  refine zq_loop_B (fun b Q hb h => ?_) 28 0 false Q (by decide) hB
  unfold zq_G1
  split
  · exact zq_vote_B h (by decide) hb
  · exact h
theorem zq_accs_B {P : Nat → Nat → Bool} {k n lo : Nat} (hk : k < 3) (hn : lo + n ≤ 28) (hB : zq_B Q) : zq_B (zq_loop (zq_acc P v k) n lo false Q).2 := zq_loop_B (fun _ _ hb h => zq_acc_B h hk hb) n lo false Q hn hB
theorem zq_cons_B {P : Nat → Nat → Bool} {k n lo : Nat} (hk : k < 3) (hn : lo + n ≤ 28) (hB : zq_B Q) : zq_B (zq_loop (zq_con P v k) n lo false Q).2 := zq_loop_B (fun _ _ hb h => zq_con_B h hk hb) n lo false Q hn hB
theorem zq_pre_B {P : Nat → Nat → Bool} (hB : zq_B Q) : zq_B (zq_pre P v Q).2 :=
  zq_G_B (zq_cons_B (by decide) (by decide) (zq_accs_B (by decide) (by decide) (zq_D_B (zq_cons_B (by decide) (by decide) (zq_accs_B (by decide) (by decide) (zq_A_B hB))))))
theorem zq_H_B {P : Nat → Nat → Bool} : ∀ (n b : Nat) (mv : Bool) (Q : zq_Q), b + n ≤ 28 → zq_B Q → zq_B (zq_H P v n b mv Q).2.2 := by
  intro n
  induction n with
  | zero => intro b mv Q _ h; exact h
  | succ n ih =>
    intro b mv Q hb h
    rw [zq_H_s]
    have h1 : zq_B (zq_acc P v 2 b Q).2 := zq_acc_B h (by decide) (by omega)
    split
    · exact zq_put_B h1 (by decide) (by omega)
    · exact ih (b + 1) _ _ (by omega) h1
theorem zq_end_B {P : Nat → Nat → Bool} (hB : zq_B Q) : zq_B (zq_end P v Q).2.2 := zq_H_B 28 0 false _ (by decide) (zq_pre_B hB)
theorem zs_stir18 (hC : zcl S v) : ∀ (f k fuel : Nat) (Q : zq_Q), k + f = 1000 → f < fuel → zq_B Q → zf_Mo_stir_18 fuel m (nI v) (nI 1) (nI k) (zr d m (zw S v Q)) = some ((), zr d m (zs_res S v (zq_stir (zs_P S) v f Q))) := by
  intro f
  induction f with
  | zero =>
    intro k fuel Q hk hf hB
    obtain ⟨fuel, rfl⟩ : ∃ g, fuel = g + 1 := ⟨fuel - 1, by omega⟩
    obtain rfl : k = 1000 := by omega
    rw [zf_Mo_stir_18, if_pos (Int32.le_refl _)]
    rfl
  | succ f ih =>
    intro k fuel Q hk hf hB
    obtain ⟨fuel, rfl⟩ : ∃ g, fuel = g + 1 := ⟨fuel - 1, by omega⟩
    have hc := hC.1
    have stop : ∀ (k' : Nat) (σ : za_h), zf_Mo_stir_187 (zf_Mo_stir_18 fuel) m (nI v) (nI k') (nI 0) σ = some ((), σ) := by
      intro k' σ
      obtain ⟨g, rfl⟩ : ∃ g, fuel = g + 1 := ⟨fuel - 1, by omega⟩
      unfold zf_Mo_stir_187
      rw [zf_Mo_stir_18]
      by_cases hh : nI 1000 ≤ nI k' + nI 1
      · rw [if_pos hh]; rfl
      · rw [if_neg hh, if_pos (by decide)]; rfl
    -- the last rule
    have h158 : ∀ (p : Bool) (Q' : zq_Q), zq_B Q' → zf_Mo_stir_158 (zf_Mo_stir_18 fuel) m (nI v) (nI k) (nI p.toNat) (zr d m (zw S v Q')) = some ((), zr d m (zs_res S v (match (zq_H (zs_P S) v 28 0 false Q').1 with
        | some b => (some b, (zq_H (zs_P S) v 28 0 false Q').2.2)
        | none => if (zq_H (zs_P S) v 28 0 false Q').2.1 || p then zq_stir (zs_P S) v f (zq_H (zs_P S) v 28 0 false Q').2.2 else (none, (zq_H (zs_P S) v 28 0 false Q').2.2)))) := by
      intro p Q' hB'
      have hHB := zq_H_B (P := zs_P S) (v := v) 28 0 false Q' (by decide) hB'
      unfold zf_Mo_stir_158 zf_Mo_stir_186 zf_Mo_stir_182
      simp only [zr_gc, Option.bind_some, zs_ruleH hC hB']
      generalize zq_H (zs_P S) v 28 0 false Q' = r at hHB ⊢
      obtain ⟨ob, c, Q2⟩ := r
      cases ob with
      | some b =>
        show (if nI 2 ≤ nI 2 then _ else _) = _
        rw [if_pos (Int32.le_refl _), stop]
      | none =>
        show (if nI 2 ≤ nI c.toNat then _ else if nI c.toNat = nI 1 then _ else _) = _
        rw [if_neg (by cases c <;> decide)]
        have go : zf_Mo_stir_187 (zf_Mo_stir_18 fuel) m (nI v) (nI k) (nI 1) (zr d m (zs_res S v (none, Q2))) = some ((), zr d m (zs_res S v (zq_stir (zs_P S) v f Q2))) := by
          unfold zf_Mo_stir_187
          rw [nI_add]
          exact ih (k + 1) fuel Q2 (by omega) (by omega) hHB
        cases c
        · rw [if_neg (by decide)]
          cases p
          · rw [if_pos (by decide), stop]; rfl
          · rw [if_neg (by decide), go]; rfl
        · rw [if_pos (by decide), go]; rfl
    have h140 : ∀ (r : Bool × zq_Q), zq_B r.2 → zf_Mo_stir_140 (zf_Mo_stir_18 fuel) m (nI v) (nI k) (nI r.1.toNat) (zr d m (zw S v r.2)) = zf_Mo_stir_158 (zf_Mo_stir_18 fuel) m (nI v) (nI k) (nI (zq_p zq_G r).1.toNat) (zr d m (zw S v (zq_p zq_G r).2)) := by
      intro r hr
      obtain ⟨p, R⟩ := r
      unfold zf_Mo_stir_140 zf_Mo_stir_153 zq_p
      simp only [zr_gc, Option.bind_some, zs_ruleG hc hr]
      cases (zq_G R).1 <;> cases p <;> simp [zt0, zf0, ztn, zfn, z00, z10]
    have h118 : ∀ (r : Bool × zq_Q), zq_B r.2 → zf_Mo_stir_118 (zf_Mo_stir_18 fuel) m (nI v) (nI k) (nI r.1.toNat) (zr d m (zw S v r.2)) = zf_Mo_stir_140 (zf_Mo_stir_18 fuel) m (nI v) (nI k) (nI (zq_p (zq_loop (zq_con (zs_P S) v 1) 28 0 false) r).1.toNat) (zr d m (zw S v (zq_p (zq_loop (zq_con (zs_P S) v 1) 28 0 false) r).2)) := by
      intro r hr
      obtain ⟨p, R⟩ := r
      unfold zf_Mo_stir_118 zf_Mo_stir_135 zq_p
      simp only [zr_gc, Option.bind_some, zs_confirm hc hr (show 1 < 3 by decide) (show 27 < 28 by decide) (show 0 + 28 = 27 + 1 by decide)]
      cases (zq_loop (zq_con (zs_P S) v 1) 28 0 false R).1 <;> cases p <;> simp [zt0, zf0, ztn, zfn, z00, z10]
    have h96 : ∀ (r : Bool × zq_Q), zq_B r.2 → zf_Mo_stir_96 (zf_Mo_stir_18 fuel) m (nI v) (nI k) (nI r.1.toNat) (zr d m (zw S v r.2)) = zf_Mo_stir_118 (zf_Mo_stir_18 fuel) m (nI v) (nI k) (nI (zq_p (zq_loop (zq_acc (zs_P S) v 1) 28 0 false) r).1.toNat) (zr d m (zw S v (zq_p (zq_loop (zq_acc (zs_P S) v 1) 28 0 false) r).2)) := by
      intro r hr
      obtain ⟨p, R⟩ := r
      unfold zf_Mo_stir_96 zf_Mo_stir_113 zq_p
      simp only [zr_gc, Option.bind_some, zs_accept hc hr (show 1 < 3 by decide) (show 27 < 28 by decide) (show 0 + 28 = 27 + 1 by decide)]
      cases (zq_loop (zq_acc (zs_P S) v 1) 28 0 false R).1 <;> cases p <;> simp [zt0, zf0, ztn, zfn, z00, z10]
    have h78 : ∀ (r : Bool × zq_Q), zq_B r.2 → zf_Mo_stir_78 (zf_Mo_stir_18 fuel) m (nI v) (nI k) (nI r.1.toNat) (zr d m (zw S v r.2)) = zf_Mo_stir_96 (zf_Mo_stir_18 fuel) m (nI v) (nI k) (nI (zq_p zq_D r).1.toNat) (zr d m (zw S v (zq_p zq_D r).2)) := by
      intro r hr
      obtain ⟨p, R⟩ := r
      unfold zf_Mo_stir_78 zf_Mo_stir_91 zq_p
      simp only [zr_gc, Option.bind_some, zs_ruleD hc hr]
      cases (zq_D R).1 <;> cases p <;> simp [zt0, zf0, ztn, zfn, z00, z10]
    have h56 : ∀ (r : Bool × zq_Q), zq_B r.2 → zf_Mo_stir_56 (zf_Mo_stir_18 fuel) m (nI v) (nI k) (nI r.1.toNat) (zr d m (zw S v r.2)) = zf_Mo_stir_78 (zf_Mo_stir_18 fuel) m (nI v) (nI k) (nI (zq_p (zq_loop (zq_con (zs_P S) v 0) 7 1 false) r).1.toNat) (zr d m (zw S v (zq_p (zq_loop (zq_con (zs_P S) v 0) 7 1 false) r).2)) := by
      intro r hr
      obtain ⟨p, R⟩ := r
      unfold zf_Mo_stir_56 zf_Mo_stir_73 zq_p
      simp only [zr_gc, Option.bind_some, zs_confirm hc hr (show 0 < 3 by decide) (show 7 < 28 by decide) (show 1 + 7 = 7 + 1 by decide)]
      cases (zq_loop (zq_con (zs_P S) v 0) 7 1 false R).1 <;> cases p <;> simp [zt0, zf0, ztn, zfn, z00, z10]
    have b1 : zq_B (zq_A v Q).2 := zq_A_B hB
    have b2 := zq_accs_B (P := zs_P S) (v := v) (k := 0) (n := 7) (lo := 1) (by decide) (by decide) b1
    have b3 := zq_cons_B (P := zs_P S) (v := v) (k := 0) (n := 7) (lo := 1) (by decide) (by decide) b2
    have b4 := zq_D_B b3
    have b5 := zq_accs_B (P := zs_P S) (v := v) (k := 1) (n := 28) (lo := 0) (by decide) (by decide) b4
    have b6 := zq_cons_B (P := zs_P S) (v := v) (k := 1) (n := 28) (lo := 0) (by decide) (by decide) b5
    have b7 := zq_G_B b6
    have h18 : zf_Mo_stir_18 (fuel + 1) m (nI v) (nI 1) (nI k) (zr d m (zw S v Q)) = zf_Mo_stir_56 (zf_Mo_stir_18 fuel) m (nI v) (nI k) (nI (zq_p (zq_loop (zq_acc (zs_P S) v 0) 7 1 false) (zq_A v Q)).1.toNat) (zr d m (zw S v (zq_p (zq_loop (zq_acc (zs_P S) v 0) 7 1 false) (zq_A v Q)).2)) := by
      rw [zf_Mo_stir_18, if_neg (nI_ge (by omega) (by decide)), if_neg (by decide)]
      unfold zf_Mo_stir_51 zq_p
      simp only [zr_gc, Option.bind_some, zs_ruleA hc hB, zs_accept hc b1 (show 0 < 3 by decide) (show 7 < 28 by decide) (show 1 + 7 = 7 + 1 by decide)]
      cases (zq_loop (zq_acc (zs_P S) v 0) 7 1 false (zq_A v Q).2).1 <;> cases (zq_A v Q).1 <;> simp [zt0, zf0, ztn, zfn, z00, z10]
    rw [h18, h56 (zq_p (zq_loop (zq_acc (zs_P S) v 0) 7 1 false) (zq_A v Q)) b2, h78 (zq_p (zq_loop (zq_con (zs_P S) v 0) 7 1 false) (zq_p (zq_loop (zq_acc (zs_P S) v 0) 7 1 false) (zq_A v Q))) b3, h96 (zq_p zq_D (zq_p (zq_loop (zq_con (zs_P S) v 0) 7 1 false) (zq_p (zq_loop (zq_acc (zs_P S) v 0) 7 1 false) (zq_A v Q)))) b4, h118 (zq_p (zq_loop (zq_acc (zs_P S) v 1) 28 0 false) (zq_p zq_D (zq_p (zq_loop (zq_con (zs_P S) v 0) 7 1 false) (zq_p (zq_loop (zq_acc (zs_P S) v 0) 7 1 false) (zq_A v Q))))) b5, h140 (zq_p (zq_loop (zq_con (zs_P S) v 1) 28 0 false) (zq_p (zq_loop (zq_acc (zs_P S) v 1) 28 0 false) (zq_p zq_D (zq_p (zq_loop (zq_con (zs_P S) v 0) 7 1 false) (zq_p (zq_loop (zq_acc (zs_P S) v 0) 7 1 false) (zq_A v Q)))))) b6, h158 _ (zq_p zq_G (zq_p (zq_loop (zq_con (zs_P S) v 1) 28 0 false) (zq_p (zq_loop (zq_acc (zs_P S) v 1) 28 0 false) (zq_p zq_D (zq_p (zq_loop (zq_con (zs_P S) v 0) 7 1 false) (zq_p (zq_loop (zq_acc (zs_P S) v 0) 7 1 false) (zq_A v Q))))))).2 b7, zq_stir_s]
    rfl
theorem zs_stir (hC : zcl S v) (hB : zq_B Q) : zf_Mo_stir m (nI v) (zr d m (zw S v Q)) = some ((), zr d m (zs_res S v (zq_stir (zs_P S) v 1000 Q))) := by
  have hs := hC.1.2.1
  unfold zf_Mo_stir zf_Mo_stir_15
  simp only [zr_g7, Option.bind_some, zr_l7 hC.1.1, zw_row (show 7 < 8 ∨ 13 < 7 by omega)]
  rw [if_neg (nI_ge hs (by decide))]
  exact zs_stir18 hC 1000 0 1001 Q (by decide) (by decide) hB
end RG
