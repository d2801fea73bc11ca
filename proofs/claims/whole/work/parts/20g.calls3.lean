/-! The class's calls that change nothing. -/
section YQU
variable {d : za_h} {x v : Nat} {T : Nat → Nat → Nat} {U : Nat → Nat → Option Nat} {S : Nat → Nat → Nat} {Q : zq_Q} {N s : Nat}
theorem yl_c (hL : zk T v (zv_get S v) = T) {j : Nat} (hj : j < 4) : T (qL v + 1) j = S 26 (8 * v + 2 * j) := by
  have h := zkl_c (T := T) (v := v) (L := zv_get S v) hj
  rw [hL] at h
  rw [h]; unfold zv_get; rw [if_pos rfl]
theorem yl_s (hL : zk T v (zv_get S v) = T) {j : Nat} (hj : j < 4) : T (qL v + 2) j = S 26 (8 * v + 2 * j + 1) := by
  have h := zkl_s (T := T) (v := v) (L := zv_get S v) hj
  rw [hL] at h
  rw [h]; unfold zv_get; rw [if_pos rfl]; rfl
theorem y_envelopes (hR : yR d x T U S) : zf_TL_envelopes x (zx d x T U) = some (nI (S 16 0), zx d x T U) := by
  unfold zf_TL_envelopes
  rw [xo_g5, zbs, hR.1.2.1]
theorem y_state (hI : zi N S) (hR : yR d x T U S) (a y : Int32) : zf_TL_state x a y (zx d x T U) = some (zo_state S a y, zx d x T U) := by
  have e0 := hR.1.1
  have hf : T 0 0 < 32 := by rw [e0]; exact hI.1
  unfold zf_TL_state zf_TL_state_17 zf_TL_state_61 zo_state
  rw [xo_c, zbs, ygood hf, zbs, e0]
  dsimp only
  cases hg : zo_good (S 0 0) a
  · rw [if_pos (by decide), if_neg (by simp)]
  · obtain ⟨v, hv, rfl, -⟩ := zo_good_t hg
    obtain ⟨n1, n2, n3, n4, n5⟩ := hI.2.2.2.2.2.2.2.1 v hv
    obtain ⟨t2, t3⟩ := hR.1.2.2.2.2 v hv
    rw [if_neg (by decide), nI_clamp (show v < 2 ^ 31 by omega), yw, zbs, zo_in (show 5 < 2 ^ 31 by decide)]
    dsimp only
    cases hy : zo_kin (5 + 1) y
    · rw [if_pos (by decide), if_neg (by simp)]
    · rw [if_neg (by decide), if_pos ⟨rfl, rfl⟩, xo_g2, zbs, xns_l _ _ _ _ hv, zbs, xn_g2 _ _ _ _ hv, zbs, t2]
      have hz0 : (y = 0) = (y = nI 0) := rfl
      by_cases h0 : y = nI 0
      · rw [if_pos (by rw [hz0]; exact h0), if_pos h0]
      · rw [if_neg (by rw [hz0]; exact h0), if_neg h0, ysl, zbs, zo_kin_n (by omega) (by decide)]
        dsimp only
        by_cases h3 : S 7 v = 3
        · rw [decide_eq_false (by omega), if_pos (by decide), if_pos h3]
        · have hs : S 7 v < 3 := by omega
          have hb := hR.2.2.1 v (S 7 v) hv hs (Nat.le_refl _)
          have eq : yRq S v (S 7 v) = zw_get S v := by unfold yRq; rw [if_pos rfl]
          have hzt : zt T v (S 7 v) (zw_get S v) = T := yR_zt (hR.2.1 v (S 7 v) hv hs) hb rfl hv
          have hb6 : T (qA v (S 7 v)) 6 = S 11 v := by have := hb.1; rw [eq] at this; exact this
          have hb7 : ∀ j, j < 3 → T (qA v (S 7 v)) (7 + j) = S (8 + j) v := by
            intro j hj
            have := hb.2.1 j hj
            rw [eq] at this
            exact this
          have b7 : T (qA v (S 7 v)) 7 = S 8 v := hb7 0 (by decide)
          have b8 : T (qA v (S 7 v)) 8 = S 9 v := hb7 1 (by decide)
          have b9 : T (qA v (S 7 v)) 9 = S 10 v := hb7 2 (by decide)
          have ec := ycomp (T := T) (U := U) (d := d) (x := x) hv hs (zi_B hI hv hs)
          rw [hzt] at ec
          rw [decide_eq_true hs, if_neg (by decide), if_neg h3, xo_g2, zbs, xns_l _ _ _ _ hv, zbs, xn_g0 _ _ _ _ hv, zbs, xas_l _ _ _ _ hv hs, zbs, xa_c _ _ _ _ hv hs, zbs]
          unfold zf_Agreement_aspect
          by_cases h1 : y = nI 1
          · rw [if_pos h1, if_pos h1, xa_g7 _ _ _ _ hv hs, zbs, zbs, b7]
          · rw [if_neg h1, if_neg h1]
            by_cases h2 : y = nI 2
            · rw [if_pos h2, if_pos h2, xa_g8 _ _ _ _ hv hs, zbs, zbs, b8]
            · rw [if_neg h2, if_neg h2]
              by_cases h3 : y = nI 3
              · rw [if_pos h3, if_pos h3, xa_g9 _ _ _ _ hv hs, zbs, zbs, b9]
              · rw [if_neg h3, if_neg h3]
                by_cases h4 : y = nI 4
                · rw [if_pos h4, if_pos h4, xa_c _ _ _ _ hv hs, zbs, ec, zbs]
                  dsimp only
                  rw [zbs]
                · rw [if_neg h4, if_neg h4, xa_g6 _ _ _ _ hv hs, zbs, zbs, hb6]
theorem y_statements (hI : zi N S) (hR : yR d x T U S) (a s k h : Int32) : zf_TL_statements x a s k h (zx d x T U) = some (zo_statements S a s k h, zx d x T U) := by
  have e0 := hR.1.1
  have hf : T 0 0 < 32 := by rw [e0]; exact hI.1
  unfold zf_TL_statements zf_TL_statements_34 zf_TL_statements_85 zo_statements
  rw [xo_c, zbs, ygood hf, zbs, e0]
  dsimp only
  cases hg : zo_good (S 0 0) a
  · rw [if_pos (by decide), if_neg (by simp)]
  · rw [if_neg (by decide), ysl, zbs]
    dsimp only
    cases h1 : zo_kin 3 s
    · rw [if_pos (by decide), if_neg (by simp)]
    · rw [if_neg (by decide), yw, zbs, zo_in (show 2 < 2 ^ 31 by decide)]
      dsimp only
      cases h2 : zo_kin 3 k
      · rw [if_pos (by decide), if_neg (by simp)]
      · rw [if_neg (by decide), yw, zbs, zo_in (show 2 < 2 ^ 31 by decide)]
        dsimp only
        cases h3 : zo_kin 3 h
        · rw [if_pos (by decide), if_neg (by simp)]
        · rw [if_neg (by decide), if_pos ⟨rfl, rfl, rfl, rfl⟩]
          obtain ⟨v, hv, rfl, -⟩ := zo_good_t hg
          obtain ⟨s, hs, rfl⟩ := zo_kin_t h1
          obtain ⟨k, hk, rfl⟩ := zo_kin_t h2
          obtain ⟨h, hh, rfl⟩ := zo_kin_t h3
          rw [nI_clamp (show v < 2 ^ 31 by omega), nI_clamp (show s < 2 ^ 31 by omega), nI_clamp (show k < 2 ^ 31 by omega), nI_clamp (show h < 2 ^ 31 by omega)]
          obtain ⟨k1, k2, k3, k4⟩ := (hR.2.1 v s hv hs).2 k hk
          rw [xo_g2, zbs, xns_l _ _ _ _ hv, zbs, xn_g0 _ _ _ _ hv, zbs, xas_l _ _ _ _ hv hs, zbs, xa_c _ _ _ _ hv hs, zbs, yok hv hs hk, zbs]
          dsimp only
          rcases (show h = 0 ∨ h = 1 ∨ h = 2 by omega) with rfl | rfl | rfl
          · rw [if_pos (by decide), xs_g2 _ _ _ _ hv hs hk, zbs, k1]; rfl
          · rw [if_neg (by decide), if_pos rfl, xs_g5 _ _ _ _ hv hs hk, zbs, xc_l _ _ _ _ hv hs hk hv, zbs, k3]
          · rw [if_neg (by decide), if_neg (by decide), xs_g3 _ _ _ _ hv hs hk, zbs, k2]
theorem y_value (hI : zi N S) (hR : yR d x T U S) (a s : Int32) : zf_TL_value x a s (zx d x T U) = some (zo_value S a s, zx d x T U) := by
  have e0 := hR.1.1
  have hf : T 0 0 < 32 := by rw [e0]; exact hI.1
  unfold zf_TL_value zf_TL_value_32 zf_TL_value_33 zo_value
  rw [xo_c, zbs, ygood hf, zbs, e0]
  dsimp only
  cases hg : zo_good (S 0 0) a
  · rw [if_pos (by decide), if_neg (by simp)]
  · rw [if_neg (by decide), ysl, zbs]
    dsimp only
    cases h1 : zo_kin 3 s
    · rw [if_pos (by decide), if_neg (by simp)]
    · rw [if_neg (by decide), if_pos ⟨rfl, rfl⟩]
      obtain ⟨v, hv, rfl, -⟩ := zo_good_t hg
      obtain ⟨s, hs, rfl⟩ := zo_kin_t h1
      rw [nI_clamp (show v < 2 ^ 31 by omega), nI_clamp (show s < 2 ^ 31 by omega), xo_g2, zbs, xns_l _ _ _ _ hv, zbs, xn_g0 _ _ _ _ hv, zbs, xas_l _ _ _ _ hv hs, zbs, xa_g10 _ _ _ _ hv hs, zbs, (hR.2.1 v s hv hs).1]
theorem y_header (hI : zi N S) (hR : yR d x T U S) (a : Int32) : zf_TL_header x a (zx d x T U) = some (zo_header S a, zx d x T U) := by
  have e0 := hR.1.1
  have hf : T 0 0 < 32 := by rw [e0]; exact hI.1
  unfold zf_TL_header zf_TL_header_21 zo_header
  rw [xo_c, zbs, ygood hf, zbs, e0]
  dsimp only
  cases hg : zo_good (S 0 0) a
  · rw [if_pos (by decide), if_neg (by simp)]
  · rw [if_neg (by decide), if_pos rfl]
    obtain ⟨v, hv, rfl, -⟩ := zo_good_t hg
    rw [nI_clamp (show v < 2 ^ 31 by omega), xo_g2, zbs, xns_l _ _ _ _ hv, zbs, xn_g3 _ _ _ _ hv, zbs, (hR.1.2.2.2.2 v hv).2]
theorem y_balance (hI : zi N S) (hR : yR d x T U S) (a b s : Int32) : zf_TL_balance x a b s (zx d x T U) = some (zo_balance S a b s, zx d x T U) := by
  have e0 := hR.1.1
  have hf : T 0 0 < 32 := by rw [e0]; exact hI.1
  unfold zf_TL_balance zf_TL_balance_24 zo_balance
  rw [xo_c, zbs, ygood hf, zbs, e0]
  dsimp only
  cases hg : zo_good (S 0 0) a
  · rw [if_pos (by decide), if_neg (by simp)]
  · rw [if_neg (by decide), yac, zbs]
    dsimp only
    cases h1 : zo_kin 4 b
    · rw [if_pos (by decide), if_neg (by simp)]
    · rw [if_neg (by decide), yw, zbs, zo_in (show 1 < 2 ^ 31 by decide)]
      dsimp only
      cases h2 : zo_kin 2 s
      · rw [if_pos (by decide), if_neg (by simp)]
      · rw [if_neg (by decide), if_pos ⟨rfl, rfl, rfl⟩]
        obtain ⟨v, hv, rfl, -⟩ := zo_good_t hg
        obtain ⟨b, hb, rfl⟩ := zo_kin_t h1
        obtain ⟨s, hs, rfl⟩ := zo_kin_t h2
        have hL := (hR.2.2.2.1 v hv).1
        rw [nI_clamp (show v < 2 ^ 31 by omega), nI_clamp (show b < 2 ^ 31 by omega), nI_clamp (show s < 2 ^ 31 by omega), xo_g2, zbs, xns_l _ _ _ _ hv, zbs, xn_g1 _ _ _ _ hv, zbs, xl_c _ _ _ _ hv, zbs, yhold hv hs, zbs]
        dsimp only
        rcases (show s = 0 ∨ s = 1 by omega) with rfl | rfl
        · rw [show qL v + 1 + 0 = qL v + 1 from rfl, xlc_l _ _ _ _ hv hb, zbs, yl_c hL hb]; rfl
        · rw [show qL v + 1 + 1 = qL v + 2 from rfl, xls_l _ _ _ _ hv hb, zbs, yl_s hL hb]
theorem y_offer (hI : zi N S) (hR : yR d x T U S) (a k : Int32) : zf_TL_offer x a k (zx d x T U) = some (zo_offer S a k, zx d x T U) := by
  have e0 := hR.1.1
  have hf : T 0 0 < 32 := by rw [e0]; exact hI.1
  unfold zf_TL_offer zf_TL_offer_18 zo_offer
  rw [xo_c, zbs, ygood hf, zbs, e0]
  dsimp only
  cases hg : zo_good (S 0 0) a
  · rw [if_pos (by decide), if_neg (by simp)]
  · rw [if_neg (by decide), yw, zbs, zo_in (show 7 < 2 ^ 31 by decide)]
    dsimp only
    obtain ⟨v, hv, rfl, -⟩ := zo_good_t hg
    rw [nI_clamp (show v < 2 ^ 31 by omega)]
    have h8 : S 27 v ≤ 8 := (hI.2.2.2.2.2.2.2.2.2.2.2.1 v hv).2.2.1
    cases h1 : zo_kin (7 + 1) k
    · rw [if_pos (by decide), if_neg (fun h => by
        obtain ⟨j, h2, h3⟩ := zo_kin_t h.2
        rw [h3, zo_kin_i (show j < 7 + 1 by omega)] at h1
        cases h1)]
    · obtain ⟨k, hk, rfl⟩ := zo_kin_t h1
      have hk : k < 8 := hk
      rw [if_neg (by decide), xo_g2, zbs, xns_l _ _ _ _ hv, zbs, xn_g1 _ _ _ _ hv, zbs, xl_g2 _ _ _ _ hv, zbs, xbk_l _ _ _ _ hv hk, zbs, zo_kin_n (by omega) (by omega), nI_clamp (show k < 2 ^ 31 by omega)]
      have hY := (hR.2.2.2.1 v hv).2
      have h5 : zv_get S v 5 0 = S 27 v := rfl
      by_cases hkr : k < S 27 v
      · obtain ⟨a, a1, a2, a3, a4⟩ := hY.1 k (by rw [h5]; exact hkr)
        have ha : x + 191 ≤ a := by omega
        rw [a1, if_pos ⟨rfl, decide_eq_true hkr⟩]
        dsimp only
        rw [yof_0 ha a4, zbs, yof_1 ha a4, zbs, yof_2 ha a4, zbs, yof_3 ha a4, zbs]
        simp only [pk_mul, nI_add]
        rfl
      · rw [hY.2.1 k (by rw [h5]; omega) hk, if_neg (fun h => hkr (of_decide_eq_true h.2))]
end YQU
