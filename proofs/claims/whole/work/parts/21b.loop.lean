/-! The law's loop: class and reference side by side. -/
section ZL
variable {d D : za_h} {x m : Nat} {T : Nat → Nat → Nat} {U : Nat → Nat → Option Nat} {S : Nat → Nat → Nat} {N : Nat}
theorem zrx (hm : m = x + 191) : zx (zr d m S) x T U = zr (zx d x T U) m S := by
  refine Prod.ext ?_ rfl
  funext a
  by_cases h : x ≤ a ∧ a < x + 191
  · obtain ⟨q, rfl⟩ : ∃ q, a = x + q := ⟨a - x, by omega⟩
    rw [zx_at (by omega), zr_frame (by omega), zx_at (by omega)]
  · rw [zx_out (by omega)]
    show (if a = m then some (zr_o m S) else if m < a ∧ a < m + 30 then some (zr_c S (a - m)) else d.1 a) = (if a = m then some (zr_o m S) else if m < a ∧ a < m + 30 then some (zr_c S (a - m)) else (zx d x T U).1 a)
    rw [zx_out (by omega)]
theorem zr_zr {S' : Nat → Nat → Nat} : zr (zr d m S) m S' = zr d m S' := by
  refine Prod.ext ?_ rfl
  funext a
  show (if a = m then some (zr_o m S') else if m < a ∧ a < m + 30 then some (zr_c S' (a - m)) else (if a = m then some (zr_o m S) else if m < a ∧ a < m + 30 then some (zr_c S (a - m)) else d.1 a)) = (if a = m then some (zr_o m S') else if m < a ∧ a < m + 30 then some (zr_c S' (a - m)) else d.1 a)
  by_cases h1 : a = m
  · rw [if_pos h1, if_pos h1]
  · simp only [if_neg h1]
    by_cases h2 : m < a ∧ a < m + 30
    · rw [if_pos h2, if_pos h2]
    · simp only [if_neg h2]
theorem zr_stays (hm : m = x + 191) {d' : za_h} (hF : yF x d d') (h : zr d m S = d) : zr d' m S = d' := by
  refine Prod.ext ?_ rfl
  funext a
  by_cases ha : m ≤ a ∧ a < m + 30
  · have h1 : (zr d m S).1 a = (zr d' m S).1 a := by
      show (if a = m then _ else if m < a ∧ a < m + 30 then _ else d.1 a) = (if a = m then _ else if m < a ∧ a < m + 30 then _ else d'.1 a)
      by_cases h1 : a = m
      · rw [if_pos h1, if_pos h1]
      · rw [if_neg h1, if_neg h1, if_pos (by omega), if_pos (by omega)]
    rw [← h1, h, hF.2 a (by omega)]
  · rw [zr_frame (by omega)]
theorem yR_lo (hR : yR d x T U S) {d' : za_h} (h2 : d'.2 = d.2) (hfr : ∀ b, x + 221 ≤ b → d'.1 b = d.1 b) : yR d' x T U S :=
  yR_fr hR hR.1 (fun _ _ _ => rfl) (fun _ _ => rfl) (fun _ _ => rfl) (by omega) (fun b _ h => hfr b h) (yRt_fr hR.2.2.2.2.2.1 rfl (fun _ _ _ => rfl) (by omega) (fun b _ h => hfr b h)) (yRm_fr hR.2.2.2.2.2.2.1 rfl (fun _ _ _ => rfl) (by omega) (fun b _ h => hfr b h))
theorem zbeat (hm : m = x + 191) (hD : zr D m S = D) {r : Int32 × (Nat → Nat → Nat)} {e : Option (Int32 × za_h)} (hK : yOK D x r e) : ∃ D' T' U', e = some (r.1, zr (zx D' x T' U') m S) ∧ zr (zx D' x T' U') m r.2 = zx (zr D' m r.2) x T' U' ∧ yR (zr D' m r.2) x T' U' r.2 := by
  obtain ⟨D', T', U', h1, h2, h3⟩ := hK
  refine ⟨D', T', U', ?_, (zrx hm).symm, yR_lo h2 rfl (fun b hb => zr_frame (by omega))⟩
  rw [h1, ← zrx hm, zr_stays hm h3 hD]
theorem zld {L i k : Nat} {xs : Nat → Int32} (hi : i < 2 ^ 30) (hk : k < 2 ^ 30) (h : i + k < L) : zs_ld L xs (nI i + nI k) = some (xs (i + k)) := by
  unfold zs_ld
  rw [nI_add, nI_clamp (by omega), if_pos (by
    intro h'
    rcases h' with h' | h'
    · exact nI_pos (by omega) h'
    · omega)]
theorem zlaw28 {L : Nat} {xs : Nat → Int32} (hL : L ≤ 4097) (hm : m = x + 191) : ∀ (n j fu : Nat) (D : za_h) (T : Nat → Nat → Nat) (U : Nat → Nat → Option Nat) (S : Nat → Nat → Nat), j + n = 512 → n < fu → zi j S → zj S → yR D x T U S → zr D m S = D → ∃ σ', zf_Law_law_28 L xs fu x m (nI (1 + 8 * j)) (zx D x T U) = some (nI 1, σ') := by
  intro n
  induction n with
  | zero =>
    intro j fu D T U S hj hf hI hJ hR hD
    obtain ⟨fu, rfl⟩ : ∃ q, fu = q + 1 := ⟨fu - 1, by omega⟩
    refine ⟨zx D x T U, ?_⟩
    rw [zf_Law_law_28, if_pos (by
      rw [Int32.lt_iff_toInt_lt, pk_sub_toInt (by omega) (by decide), nI_toInt (by omega)]
      omega)]
  | succ n ih =>
    intro j fu D T U S hj hf hI hJ hR hD
    obtain ⟨fu, rfl⟩ : ∃ q, fu = q + 1 := ⟨fu - 1, by omega⟩
    by_cases hend : L < 1 + 8 * j + 8
    · refine ⟨zx D x T U, ?_⟩
      rw [zf_Law_law_28, if_pos (by
        rw [Int32.lt_iff_toInt_lt, pk_sub_toInt (by omega) (by decide), nI_toInt (by omega)]
        omega)]
    · have go : ∀ (D' : za_h) (T' : Nat → Nat → Nat) (U' : Nat → Nat → Option Nat) (S' : Nat → Nat → Nat), zi (j + 1) S' → zj S' → yR D' x T' U' S' → zr D' m S' = D' → ∃ σ', zf_Law_law_678 L xs (zf_Law_law_28 L xs fu) x m (nI (1 + 8 * j)) (zx D' x T' U') = some (nI 1, σ') := by
        intro D' T' U' S' a b c e
        unfold zf_Law_law_678
        rw [nI_add, show 1 + 8 * j + 8 = 1 + 8 * (j + 1) by omega]
        exact ih (j + 1) fu D' T' U' S' (by omega) (by omega) a b c e
      have hN : j ≤ 1900 := by omega
      have i30 : 1 + 8 * j < 2 ^ 30 := by omega
      have l0 : zs_ld L xs (nI (1 + 8 * j)) = some (xs (1 + 8 * j)) := by
        have := zld (L := L) (xs := xs) (i := 1 + 8 * j) (k := 0) i30 (by decide) (by omega)
        rw [nI_add] at this
        exact this
      have l1 : zs_ld L xs (nI (1 + 8 * j) + nI 1) = some (xs (1 + 8 * j + 1)) := zld i30 (by decide) (by omega)
      have l2 : zs_ld L xs (nI (1 + 8 * j) + nI 2) = some (xs (1 + 8 * j + 2)) := zld i30 (by decide) (by omega)
      have l3 : zs_ld L xs (nI (1 + 8 * j) + nI 3) = some (xs (1 + 8 * j + 3)) := zld i30 (by decide) (by omega)
      have l4 : zs_ld L xs (nI (1 + 8 * j) + nI 4) = some (xs (1 + 8 * j + 4)) := zld i30 (by decide) (by omega)
      have l5 : zs_ld L xs (nI (1 + 8 * j) + nI 5) = some (xs (1 + 8 * j + 5)) := zld i30 (by decide) (by omega)
      have l6 : zs_ld L xs (nI (1 + 8 * j) + nI 6) = some (xs (1 + 8 * j + 6)) := zld i30 (by decide) (by omega)
      have l7 : zs_ld L xs (nI (1 + 8 * j) + nI 7) = some (xs (1 + 8 * j + 7)) := zld i30 (by decide) (by omega)
      have eD : zx D x T U = zr (zx D x T U) m S := by rw [← zrx hm, hD]
      have hI1 := zi_mono hI (Nat.le_succ j)
      generalize xs (1 + 8 * j) = v0 at l0
      generalize xs (1 + 8 * j + 1) = v1 at l1
      generalize xs (1 + 8 * j + 2) = v2 at l2
      generalize xs (1 + 8 * j + 3) = v3 at l3
      generalize xs (1 + 8 * j + 4) = v4 at l4
      generalize xs (1 + 8 * j + 5) = v5 at l5
      generalize xs (1 + 8 * j + 6) = v6 at l6
      generalize xs (1 + 8 * j + 7) = v7 at l7
      rw [zf_Law_law_28, if_neg (by
        rw [Int32.lt_iff_toInt_lt, pk_sub_toInt (by omega) (by decide), nI_toInt (by omega)]
        omega), l0, zbs]
      by_cases c0 : v0 &&& nI 15 = nI 0
      · rw [if_pos c0, l1, zbs, l2, zbs, l3, zbs, l4, zbs, l5, zbs, xo_c, zbs]
        obtain ⟨D', T', U', e1, e2, e3⟩ := zbeat hm hD (y_trust hI hR v1 v2 v3 v4 v5)
        obtain ⟨k1, k2⟩ := zi_trust hI hJ v1 v2 v3 v4 v5
        rw [e1, zbs]
        dsimp only
        rw [zbs, zbs, zbs, zbs, zbs, zr_gc, zbs, zs_trust hI, zbs]
        dsimp only
        rw [if_pos rfl, e2]
        exact go _ _ _ _ k1 k2 e3 zr_zr
      rw [if_neg c0]
      by_cases c1 : v0 &&& nI 15 = nI 1
      · rw [if_pos c1, l1, zbs, l2, zbs, l3, zbs, l4, zbs, l5, zbs, l6, zbs, l7, zbs, xo_c, zbs]
        obtain ⟨D', T', U', e1, e2, e3⟩ := zbeat hm hD (y_submit hI hR v1 v2 v3 v4 v5 v6 v7)
        obtain ⟨k1, k2⟩ := zi_submit hI hJ v1 v2 v3 v4 v5 v6 v7
        rw [e1, zbs]
        dsimp only
        rw [zbs, zbs, zbs, zbs, zbs, zbs, zbs, zr_gc, zbs, zs_submit hI, zbs]
        dsimp only
        rw [if_pos rfl, e2]
        exact go _ _ _ _ k1 k2 e3 zr_zr
      rw [if_neg c1]
      by_cases c2 : v0 &&& nI 15 = nI 2
      · rw [if_pos c2, l1, zbs, l2, zbs, xo_c, zbs]
        obtain ⟨D', T', U', e1, e2, e3⟩ := zbeat hm hD (y_propose hI hJ hN hR v1 v2)
        obtain ⟨k1, k2⟩ := zi_propose hI hJ v1 v2
        rw [e1, zbs]
        dsimp only
        rw [zbs, zbs, zr_gc, zbs, zs_propose hI hN, zbs]
        dsimp only
        rw [if_pos rfl, e2]
        exact go _ _ _ _ k1 k2 e3 zr_zr
      rw [if_neg c2]
      by_cases c3 : v0 &&& nI 15 = nI 3
      · rw [if_pos c3, l1, zbs, xo_c, zbs]
        obtain ⟨D', T', U', e1, e2, e3⟩ := zbeat hm hD (y_timeout hI hJ hN hR v1)
        obtain ⟨k1, k2⟩ := zi_timeout hI hJ v1
        rw [e1, zbs]
        dsimp only
        rw [zbs, zr_gc, zbs, zs_timeout hI hN, zbs]
        dsimp only
        rw [if_pos rfl, e2]
        exact go _ _ _ _ k1 k2 e3 zr_zr
      rw [if_neg c3]
      by_cases c4 : v0 &&& nI 15 = nI 4
      · rw [if_pos c4, l1, zbs, l2, zbs, xo_c, zbs]
        obtain ⟨D', T', U', e1, e2, e3⟩ := zbeat hm hD (y_post hI hR v1 v2)
        obtain ⟨k1, k2⟩ := zi_post hI hJ v1 v2
        rw [e1, zbs]
        dsimp only
        rw [zbs, zbs, zr_gc, zbs, zs_post hI, zbs]
        dsimp only
        rw [if_pos rfl, e2]
        exact go _ _ _ _ k1 k2 e3 zr_zr
      rw [if_neg c4]
      by_cases c5 : v0 &&& nI 15 = nI 5
      · rw [if_pos c5, l1, zbs, l2, zbs, l3, zbs, l4, zbs, l5, zbs, xo_c, zbs]
        obtain ⟨D', T', U', e1, e2, e3⟩ := zbeat hm hD (y_forge hI hR v1 v2 v3 v4 v5)
        obtain ⟨k1, k2⟩ := zi_forge hI hJ v1 v2 v3 v4 v5
        rw [e1, zbs]
        dsimp only
        rw [zbs, zbs, zbs, zbs, zbs, zr_gc, zbs, zs_forge hI, zbs]
        dsimp only
        rw [if_pos rfl, e2]
        exact go _ _ _ _ k1 k2 e3 zr_zr
      rw [if_neg c5]
      by_cases c6 : v0 &&& nI 15 = nI 6
      · rw [if_pos c6, l1, zbs, l2, zbs, xo_c, zbs]
        obtain ⟨D', T', U', e1, e2, e3⟩ := zbeat hm hD (y_deliver hI hJ hR v1 v2)
        obtain ⟨k1, k2⟩ := zi_deliver hI hJ v1 v2
        rw [e1, zbs]
        dsimp only
        rw [zbs, zbs, zr_gc, zbs, zs_deliver hI, zbs]
        dsimp only
        rw [if_pos rfl, e2]
        exact go _ _ _ _ k1 k2 e3 zr_zr
      rw [if_neg c6]
      by_cases c7 : v0 &&& nI 15 = nI 7
      · rw [if_pos c7, xo_c, zbs, y_envelopes hR, zbs]
        dsimp only
        rw [eD, zr_gc, zbs, zs_envelopes, zbs]
        dsimp only
        rw [if_pos rfl, ← eD]
        exact go _ _ _ _ hI1 hJ hR hD
      rw [if_neg c7]
      by_cases c8 : v0 &&& nI 15 = nI 8
      · rw [if_pos c8, l1, zbs, l2, zbs, xo_c, zbs, y_state hI hR, zbs]
        dsimp only
        rw [zbs, zbs, eD, zr_gc, zbs, zs_state hI, zbs]
        dsimp only
        rw [if_pos rfl, ← eD]
        exact go _ _ _ _ hI1 hJ hR hD
      rw [if_neg c8]
      by_cases c9 : v0 &&& nI 15 = nI 9
      · rw [if_pos c9, l1, zbs, l2, zbs, l3, zbs, l4, zbs, xo_c, zbs, y_statements hI hR, zbs]
        dsimp only
        rw [zbs, zbs, zbs, zbs, eD, zr_gc, zbs, zs_statements hI, zbs]
        dsimp only
        rw [if_pos rfl, ← eD]
        exact go _ _ _ _ hI1 hJ hR hD
      rw [if_neg c9]
      by_cases c10 : v0 &&& nI 15 = nI 10
      · rw [if_pos c10, l1, zbs, l2, zbs, xo_c, zbs, y_value hI hR, zbs]
        dsimp only
        rw [zbs, zbs, eD, zr_gc, zbs, zs_value hI, zbs]
        dsimp only
        rw [if_pos rfl, ← eD]
        exact go _ _ _ _ hI1 hJ hR hD
      rw [if_neg c10]
      by_cases c11 : v0 &&& nI 15 = nI 11
      · rw [if_pos c11, l1, zbs, xo_c, zbs, y_header hI hR, zbs]
        dsimp only
        rw [zbs, eD, zr_gc, zbs, zs_header hI, zbs]
        dsimp only
        rw [if_pos rfl, ← eD]
        exact go _ _ _ _ hI1 hJ hR hD
      rw [if_neg c11]
      by_cases c12 : v0 &&& nI 15 = nI 12
      · rw [if_pos c12, l1, zbs, l2, zbs, l3, zbs, xo_c, zbs, y_balance hI hR, zbs]
        dsimp only
        rw [zbs, zbs, zbs, eD, zr_gc, zbs, zs_balance hI, zbs]
        dsimp only
        rw [if_pos rfl, ← eD]
        exact go _ _ _ _ hI1 hJ hR hD
      rw [if_neg c12]
      by_cases c13 : v0 &&& nI 15 = nI 13
      · rw [if_pos c13, l1, zbs, l2, zbs, xo_c, zbs, y_offer hI hR, zbs]
        dsimp only
        rw [zbs, zbs, eD, zr_gc, zbs, zs_offer hI, zbs]
        dsimp only
        rw [if_pos rfl, ← eD]
        exact go _ _ _ _ hI1 hJ hR hD
      rw [if_neg c13]
      exact go _ _ _ _ hI1 hJ hR hD
end ZL
