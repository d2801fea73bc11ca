/-! The reference: a new round's leader. -/
def zq_wt (s r u : Nat) : Nat := (37 * u + 61 * s + 17 * r) * 29 % 101
def zq_cand (S : Nat → Nat → Nat) (v : Nat) : Nat := S 3 v ||| 2 ^ v ||| (if S 4 v = 0 then 0 else S 5 v)
def zq_nx (cand s r u : Nat) (f : Option (Nat × Nat)) : Option (Nat × Nat) := match f with
  | none => if cand.testBit u then some (u, zq_wt s r u) else none
  | some p => if cand.testBit u && decide (p.2 < zq_wt s r u) then some (u, zq_wt s r u) else some p
def zq_ld (cand s r : Nat) : Nat → Nat → Option (Nat × Nat) → Option (Nat × Nat)
  | 0, _, f => f
  | n + 1, u, f => zq_ld cand s r n (u + 1) (zq_nx cand s r u f)
theorem zq_ld_s {cand s r n u : Nat} {f : Option (Nat × Nat)} : zq_ld cand s r (n + 1) u f = zq_ld cand s r n (u + 1) (zq_nx cand s r u f) := rfl
theorem zq_nx_ok {cand s r u : Nat} {f : Option (Nat × Nat)} (hu : u < 5) (hf : ∀ p, f = some p → p.1 < 5) : ∀ p, zq_nx cand s r u f = some p → p.1 < 5 := by
  intro p hp
  unfold zq_nx at hp
  cases f with
  | none =>
    dsimp only at hp
    split at hp
    · cases hp; exact hu
    · cases hp
  | some q =>
    dsimp only at hp
    split at hp
    · cases hp; exact hu
    · exact hf p hp
theorem zq_nx_ne {cand s r u : Nat} {f : Option (Nat × Nat)} (h : f ≠ none ∨ cand.testBit u = true) : zq_nx cand s r u f ≠ none := by
  unfold zq_nx
  cases f with
  | none =>
    rcases h with h | h
    · exact absurd rfl h
    · dsimp only; rw [if_pos h]; exact fun h => by cases h
  | some q =>
    dsimp only
    split
    · exact fun h => by cases h
    · exact fun h => by cases h
theorem zq_ld_some {cand s r : Nat} : ∀ (n u : Nat) (f : Option (Nat × Nat)), u + n = 5 → (∀ p, f = some p → p.1 < 5) → (f ≠ none ∨ ∃ w, u ≤ w ∧ w < 5 ∧ cand.testBit w = true) → ∃ p, zq_ld cand s r n u f = some p ∧ p.1 < 5 := by
  intro n
  induction n with
  | zero =>
    intro u f hu hf h
    rcases h with h | ⟨w, h1, h2, -⟩
    · cases f with
      | none => exact absurd rfl h
      | some p => exact ⟨p, rfl, hf p rfl⟩
    · omega
  | succ n ih =>
    intro u f hu hf h
    rw [zq_ld_s]
    refine ih (u + 1) _ (by omega) (zq_nx_ok (by omega) hf) ?_
    rcases h with h | ⟨w, h1, h2, h3⟩
    · exact Or.inl (zq_nx_ne (Or.inl h))
    · by_cases hw : w = u
      · subst hw; exact Or.inl (zq_nx_ne (Or.inr h3))
      · exact Or.inr ⟨w, by omega, h2, h3⟩
def zq_lead (cand s r : Nat) : Nat := match zq_ld cand s r 5 0 none with
  | none => 0
  | some p => p.1
def zq_nr (cand s : Nat) (Q : zq_Q) : zq_Q := u2 (u2 Q 2 0 (Q 2 0 + 1)) 2 1 (Q 2 1 ||| 2 ^ zq_lead cand s (Q 2 0 + 1))
theorem zq_cand_tb {S : Nat → Nat → Nat} {v : Nat} : (zq_cand S v).testBit v = true := by
  unfold zq_cand
  rw [Nat.testBit_or, Nat.testBit_or, Nat.testBit_two_pow]
  simp
theorem zq_lead_lt {cand s r v : Nat} (hv : v < 5) (h : cand.testBit v = true) : zq_lead cand s r < 5 ∧ ∃ p, zq_ld cand s r 5 0 none = some p ∧ zq_lead cand s r = p.1 := by
  obtain ⟨p, h1, h2⟩ := zq_ld_some (cand := cand) (s := s) (r := r) 5 0 none (by decide) (fun p h => by cases h) (Or.inr ⟨v, by omega, hv, h⟩)
  unfold zq_lead
  rw [h1]
  exact ⟨h2, p, rfl, rfl⟩
theorem zq_nr_B {cand s v : Nat} {Q : zq_Q} (hv : v < 5) (h : cand.testBit v = true) (hB : zq_B Q) : zq_B (zq_nr cand s Q) := by
  have hl := (zq_lead_lt (s := s) (r := Q 2 0 + 1) hv h).1
  unfold zq_nr
  refine ⟨fun j hj => ?_, fun j hj => ?_, ?_, ?_, ?_⟩
  · rw [u2_k (by decide), u2_k (by decide)]; exact hB.1 j hj
  · rw [u2_k (by decide), u2_k (by decide)]; exact hB.2.1 j hj
  · rw [u2_s]; exact Nat.or_lt_two_pow (n := 5) hB.2.2.1 (Nat.pow_lt_pow_right (by decide) hl)
  · rw [u2_i (by decide), u2_i (by decide)]; exact hB.2.2.2.1
  · rw [u2_i (by decide), u2_i (by decide)]; exact hB.2.2.2.2
def zq_li (f : Option (Nat × Nat)) : Int32 × Int32 := match f with
  | none => (-1, -1)
  | some p => (nI p.1, nI p.2)
section RN
variable {S : Nat → Nat → Nat} {v : Nat} {d : za_h} {m : Nat} {Q : zq_Q}
theorem zs_newRound49 (hC : zc S v) (hr : Q 2 0 ≤ 2000) (hl : Q 2 1 < 32) {cand : Nat} (hc : cand < 32) (hcv : cand.testBit v = true) : ∀ (n u f : Nat) (g : Option (Nat × Nat)), u + n = 5 → n < f → (∀ p, g = some p → p.1 < 5 ∧ p.2 < 101) → (g ≠ none ∨ u ≤ v) →
    zf_Mo_newRound_49 f m (nI v) (nI cand) (zq_li g).1 (zq_li g).2 (nI u) (zr d m (zw S v Q)) = some ((), zr d m (zw S v (u2 Q 2 1 (Q 2 1 ||| 2 ^ (match zq_ld cand (S 7 v) (Q 2 0) n u g with | none => 0 | some p => p.1))))) := by
  have hv := hC.1
  have hs := hC.2.1
  have e9 : zw S v Q 9 v = Q 2 1 := zw_2 (k := 1) (by decide)
  have e8 : zw S v Q 8 v = Q 2 0 := zw_2 (k := 0) (by decide)
  have u9 : ∀ x, u2 (zw S v Q) 9 v x = zw S v (u2 Q 2 1 x) := fun x => zw_u2 (k := 1) (by decide)
  intro n
  induction n with
  | zero =>
    intro u f g hu hf hg hn
    obtain ⟨f, rfl⟩ : ∃ q, f = q + 1 := ⟨f - 1, by omega⟩
    obtain rfl : u = 5 := by omega
    cases g with
    | none => rcases hn with h | h; exact absurd rfl h; omega
    | some p =>
      have hp := hg p rfl
      rw [zf_Mo_newRound_49, if_pos (Int32.le_refl _)]
      simp only [zq_li, zr_g9, Option.bind_some, zr_l9 hv, e9, zn_shl (show p.1 < 32 by omega), zn_or, Nat.one_mul, zr_s9 hv, u9]
      rfl
  | succ n ih =>
    intro u f g hu hf hg hn
    obtain ⟨f, rfl⟩ : ∃ q, f = q + 1 := ⟨f - 1, by omega⟩
    have hw : zq_wt (S 7 v) (Q 2 0) u < 101 := Nat.mod_lt _ (by decide)
    rw [zf_Mo_newRound_49, if_neg (nI_ge (by omega) (by decide)), zn_bit (by omega) (by omega), zq_ld_s]
    unfold zf_Mo_newRound_112
    simp only [zr_g7, zr_g8, Option.bind_some, zr_l7 hv, zr_l8 hv, e8, zw_row (show 7 < 8 ∨ 13 < 7 by omega), pk_mul, nI_add]
    rw [pk_rem (show (37 * u + 61 * S 7 v + 17 * Q 2 0) * 29 < 2 ^ 31 by omega) (by decide) (by decide), show (37 * u + 61 * S 7 v + 17 * Q 2 0) * 29 % 101 = zq_wt (S 7 v) (Q 2 0) u from rfl]
    cases hb : cand.testBit u
    · rw [if_neg (by decide)]
      have hnx : zq_nx cand (S 7 v) (Q 2 0) u g = g := by
        unfold zq_nx
        cases g with
        | none => dsimp only; rw [hb]; rfl
        | some p => dsimp only; rw [hb]; rfl
      rw [hnx]
      have hne : u ≠ v := fun h => by rw [h, hcv] at hb; cases hb
      exact ih (u + 1) f g (by omega) (by omega) hg (by rcases hn with h | h; exact Or.inl h; exact Or.inr (by omega))
    · rw [if_pos (by decide)]
      cases g with
      | none =>
        show (if nI (zq_wt (S 7 v) (Q 2 0) u) ≤ (-1 : Int32) then _ else _) = _
        rw [if_neg (by
          intro h
          have h1 := Int32.le_iff_toInt_le.mp h
          rw [nI_toInt (by omega)] at h1
          have h2 : (-1 : Int32).toInt = -1 := by decide
          omega)]
        have hnx : zq_nx cand (S 7 v) (Q 2 0) u none = some (u, zq_wt (S 7 v) (Q 2 0) u) := by
          unfold zq_nx; dsimp only; rw [hb]; rfl
        rw [hnx]
        exact ih (u + 1) f (some (u, zq_wt (S 7 v) (Q 2 0) u)) (by omega) (by omega) (fun p hp => by cases hp; exact ⟨by show u < 5; omega, hw⟩) (Or.inl (fun h => by cases h))
      | some p =>
        have hp := hg p rfl
        show (if nI (zq_wt (S 7 v) (Q 2 0) u) ≤ nI p.2 then _ else _) = _
        by_cases hle : zq_wt (S 7 v) (Q 2 0) u ≤ p.2
        · have hnx : zq_nx cand (S 7 v) (Q 2 0) u (some p) = some p := by
            unfold zq_nx; dsimp only; rw [decide_eq_false (by omega), Bool.and_false]; rfl
          rw [if_pos (nI_le hle (by omega)), hnx]
          exact ih (u + 1) f (some p) (by omega) (by omega) hg (Or.inl (fun h => by cases h))
        · have hnx : zq_nx cand (S 7 v) (Q 2 0) u (some p) = some (u, zq_wt (S 7 v) (Q 2 0) u) := by
            unfold zq_nx; dsimp only; rw [decide_eq_true (by omega), hb]; rfl
          rw [if_neg (nI_ge (by omega) (by omega)), hnx]
          exact ih (u + 1) f (some (u, zq_wt (S 7 v) (Q 2 0) u)) (by omega) (by omega) (fun p hp => by cases hp; exact ⟨by show u < 5; omega, hw⟩) (Or.inl (fun h => by cases h))
theorem zs_newRound (hC : zc S v) (hB : zq_B Q) (hr : Q 2 0 ≤ 1999) : zf_Mo_newRound m (nI v) (zr d m (zw S v Q)) = some ((), zr d m (zw S v (zq_nr (zq_cand S v) (S 7 v) Q))) := by
  have hv := hC.1
  obtain ⟨h2, h3, h4, h5⟩ := hC.2.2.1 v hv
  have e8 : zw S v Q 8 v = Q 2 0 := zw_2 (k := 0) (by decide)
  have u8 : ∀ x, u2 (zw S v Q) 8 v x = zw S v (u2 Q 2 0 x) := fun x => zw_u2 (k := 0) (by decide)
  have hcand : zq_cand S v < 32 := by
    unfold zq_cand
    refine Nat.or_lt_two_pow (n := 5) (Nat.or_lt_two_pow (n := 5) h3 (Nat.pow_lt_pow_right (by decide) hv)) ?_
    split <;> omega
  have key := zs_newRound49 (S := S) (m := m) (d := d) (Q := u2 Q 2 0 (Q 2 0 + 1)) hC (by rw [u2_s]; omega) (by rw [u2_i (by decide)]; exact hB.2.2.1) hcand zq_cand_tb 5 0 6 none (by decide) (by decide) (fun p h => by cases h) (Or.inr (by omega))
  rw [u2_i (show 1 ≠ 0 by decide), u2_s] at key
  unfold zf_Mo_newRound zf_Mo_newRound_39
  simp only [zr_g8, Option.bind_some, zr_l8 hv, e8, nI_add, zr_s8 hv, u8, zr_g3, zr_g4, zr_g5, zr_l3 hv, zr_l4 hv, zr_l5 hv, zw_row (show 3 < 8 ∨ 13 < 3 by omega), zw_row (show 4 < 8 ∨ 13 < 4 by omega), zw_row (show 5 < 8 ∨ 13 < 5 by omega), zn_shl (show v < 32 by omega), zn_or, Nat.one_mul, zn_le0 (show S 4 v < 2 ^ 31 by omega)]
  unfold zq_nr zq_lead
  by_cases h0 : S 4 v = 0
  · rw [if_pos h0]
    have hc : zq_cand S v = S 3 v ||| 2 ^ v ||| 0 := by unfold zq_cand; rw [if_pos h0]
    rw [← hc]
    exact key
  · rw [if_neg h0]
    have hc : zq_cand S v = S 3 v ||| 2 ^ v ||| S 5 v := by unfold zq_cand; rw [if_neg h0]
    rw [← hc]
    exact key
end RN
