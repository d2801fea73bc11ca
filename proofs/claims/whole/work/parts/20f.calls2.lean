/-! The class's calls: deliver. -/
section YD
variable {d : za_h} {x v : Nat} {T : Nat → Nat → Nat} {U : Nat → Nat → Option Nat} {S : Nat → Nat → Nat} {Q : zq_Q} {N s a b c e t : Nat} {f g : Nat → Nat}
theorem yok (hv : v < 5) (hs : s < 3) {k : Nat} (hk : k < 3) : zf_Agreement_ofKind (x + qA v s) (nI k) (zx d x T U) = some (x + qS v s k, zx d x T U) := by
  unfold zf_Agreement_ofKind zf_Agreement_ofKind_25
  rcases (show k = 0 ∨ k = 1 ∨ k = 2 by omega) with rfl | rfl | rfl
  · rw [if_pos (by decide), xa_g3 _ _ _ _ hv hs, zbs]
  · rw [if_neg (by decide), if_pos (by decide), xa_g4 _ _ _ _ hv hs, zbs]
  · rw [if_neg (by decide), if_neg (by decide), xa_g5 _ _ _ _ hv hs, zbs]
theorem yen_f (ha : x + 191 ≤ a) (h : d.1 a = some (yen e t b c)) (k : Nat) : zg_f (zx d x T U) a 2 k = ([.int (nI e), .int (nI t), .ref b, .ref c] : List Value)[k]? := by
  unfold zg_f; rw [zx_out (Or.inr ha), h]; rfl
theorem yen_0 (ha : x + 191 ≤ a) (h : d.1 a = some (yen e t b c)) : zg_i (zx d x T U) a 2 0 = some (nI e) := by unfold zg_i; rw [yen_f ha h]; rfl
theorem yen_1 (ha : x + 191 ≤ a) (h : d.1 a = some (yen e t b c)) : zg_i (zx d x T U) a 2 1 = some (nI t) := by unfold zg_i; rw [yen_f ha h]; rfl
theorem yen_2 (ha : x + 191 ≤ a) (h : d.1 a = some (yen e t b c)) : zg_r (zx d x T U) a 2 2 = some b := by unfold zg_r; rw [yen_f ha h]; rfl
theorem yen_3 (ha : x + 191 ≤ a) (h : d.1 a = some (yen e t b c)) : zg_r (zx d x T U) a 2 3 = some c := by unfold zg_r; rw [yen_f ha h]; rfl
theorem yen_c (ha : x + 191 ≤ a) (h : d.1 a = some (yen e t b c)) : zg_c (zx d x T U) a 2 = some () := by
  unfold zg_c; rw [zx_out (Or.inr ha), h]; rfl
theorem yar_l (ha : x + 191 ≤ a) (h : d.1 a = some (yar f)) {j : Nat} (hj : j < 3) : za_ld (zx d x T U) a 0 (nI j) = some (nI (f j)) := by
  unfold za_ld; rw [zx_out (Or.inr ha), h]
  show (if 0 = 0 ∧ ¬ (nI j < 0 ∨ 3 ≤ (nI j).toNatClampNeg) then _ else _) = _
  rw [if_pos ⟨rfl, zn_in hj (by decide)⟩, nI_clamp (by omega)]
theorem zt_ul {u k i y : Nat} (hu : u < 5) (huv : u ≠ v) (hk : k < 3) (hi : i < 2) : u2 (zt T v s Q) (qS v s k + (1 + i)) u y = zt T v s (u2 Q 1 (6 * u + 2 * k + i) y) := by
  have ha := @qAS v s
  have e0 := @qS_e v s k (1 + i)
  refine zt_ext (fun q j hq => ?_) (fun j => ?_) (fun k' c j hk' hc => ?_)
  · rw [u2_k (by omega), zt_out hq]
  · rw [u2_k (by omega)]
    unfold zt
    by_cases c1 : qA v s = qA v s ∧ j = 6
    · rw [if_pos c1, if_pos c1, u2_k (by decide)]
    · rw [if_neg c1, if_neg c1]
      by_cases c2 : qA v s = qA v s ∧ 7 ≤ j ∧ j < 10
      · rw [if_pos c2, if_pos c2, u2_k (by decide)]
      · rw [if_neg c2, if_neg c2, if_neg (by omega), if_neg (by omega)]
  · have e1 := @qS_e v s k' c
    rw [zt_S hk' hc]
    have z0 : ∀ j, u2 Q 1 (6 * u + 2 * k + i) y 0 j = Q 0 j := fun j => u2_k (by decide)
    rw [z0, z0, z0]
    by_cases hc0 : c = 0
    · rw [u2_k (by omega), zt_S hk' hc, if_pos hc0, if_pos hc0]
    · rw [if_neg hc0]
      by_cases h5 : 5 ≤ j
      · rw [if_pos h5, u2_i (by omega), zt_S hk' hc, if_neg hc0, if_pos h5]
      · rw [if_neg h5]
        by_cases hjv : j = v
        · rw [if_pos hjv, if_pos hjv, u2_i (by omega), zt_S hk' hc, if_neg hc0, if_neg h5, if_pos hjv, if_pos hjv]
        · rw [if_neg hjv, if_neg hjv]
          by_cases hc1 : c = 1
          · rw [if_pos hc1]
            by_cases hh : k' = k ∧ i = 0 ∧ j = u
            · obtain ⟨rfl, rfl, rfl⟩ := hh
              rw [hc1, show 1 + 0 = 1 from rfl, u2_s]
              unfold u2; rw [if_pos ⟨rfl, rfl⟩]
            · have q1 : ¬ (qS v s k' + c = qS v s k + (1 + i) ∧ j = u) := by
                intro h
                exact hh ⟨by omega, by omega, h.2⟩
              have q2 : ¬ (1 = 1 ∧ 6 * j + 2 * k' = 6 * u + 2 * k + i) := by
                intro h
                exact hh ⟨by omega, by omega, by omega⟩
              unfold u2
              rw [if_neg q1, if_neg q2, zt_S hk' hc, if_neg hc0, if_neg h5, if_pos hc1, if_neg hjv]
          · rw [if_neg hc1]
            by_cases hh : k' = k ∧ i = 1 ∧ j = u
            · obtain ⟨rfl, rfl, rfl⟩ := hh
              rw [show c = 2 by omega, show 1 + 1 = 2 from rfl, u2_s]
              unfold u2; rw [if_pos ⟨rfl, rfl⟩]
            · have q1 : ¬ (qS v s k' + c = qS v s k + (1 + i) ∧ j = u) := by
                intro h
                exact hh ⟨by omega, by omega, h.2⟩
              have q2 : ¬ (1 = 1 ∧ 6 * j + 2 * k' + 1 = 6 * u + 2 * k + i) := by
                intro h
                exact hh ⟨by omega, by omega, by omega⟩
              unfold u2
              rw [if_neg q1, if_neg q2, zt_S hk' hc, if_neg hc0, if_neg h5, if_neg hc1, if_neg hjv]
theorem zo_learn_s {u n : Nat} {F : Nat → Nat} : u2 (zo_learn Q u F n) 1 (6 * u + n) (Q 1 (6 * u + n) ||| F n) = zo_learn Q u F (n + 1) := by
  funext c j
  unfold u2 zo_learn
  by_cases h1 : c = 1 ∧ j = 6 * u + n
  · rw [if_pos h1, if_pos ⟨h1.1, by omega, by omega⟩, h1.2, show 6 * u + n - 6 * u = n by omega]
  · rw [if_neg h1]
    by_cases h2 : c = 1 ∧ 6 * u ≤ j ∧ j < 6 * u + n
    · rw [if_pos h2, if_pos ⟨h2.1, h2.2.1, by omega⟩]
    · rw [if_neg h2, if_neg (fun h => h2 ⟨h.1, h.2.1, by have := h.2.2; have : ¬ j = 6 * u + n := fun q => h1 ⟨h.1, q⟩; omega⟩)]
theorem zo_learn_a {u n j : Nat} {F : Nat → Nat} (h : 6 * u + n ≤ j) : zo_learn Q u F n 1 j = Q 1 j := by
  unfold zo_learn; rw [if_neg (by omega)]
theorem yln2 (hv : v < 5) (hs : s < 3) (hu : e < 5) (huv : e ≠ v) (ha : x + 191 ≤ a) (hb : x + 191 ≤ b) (hc : x + 191 ≤ c) (hA : d.1 a = some (yen e t b c)) (hb1 : d.1 b = some (yar f)) (hc1 : d.1 c = some (yar g)) {F : Nat → Nat} (hF : ∀ j, j < 3 → f j = F (2 * j) ∧ g j = F (2 * j + 1)) :
    ∀ n j fu, j + n = 3 → n < fu → zf_Agreement_learn_2 fu (x + qA v s) a (nI j) (zx d x (zt T v s (zo_learn Q e F (2 * j))) U) = some ((), zx d x (zt T v s (zo_learn Q e F 6)) U) := by
  intro n
  induction n with
  | zero =>
    intro j fu hj hf
    obtain ⟨fu, rfl⟩ : ∃ q, fu = q + 1 := ⟨fu - 1, by omega⟩
    obtain rfl : j = 3 := by omega
    rw [zf_Agreement_learn_2, if_pos (Int32.le_refl _)]
  | succ n ih =>
    intro j fu hj hf
    obtain ⟨fu, rfl⟩ : ∃ q, fu = q + 1 := ⟨fu - 1, by omega⟩
    have hj3 : j < 3 := by omega
    obtain ⟨F1, F2⟩ := hF j hj3
    have w1 : zt T v s (zo_learn Q e F (2 * j)) (qS v s j + 1) e = Q 1 (6 * e + 2 * j) := by
      rw [zt_bk hj3 hu, if_neg huv, zo_learn_a (by omega)]
    have w2 : zt T v s (zo_learn Q e F (2 * j + 1)) (qS v s j + 2) e = Q 1 (6 * e + 2 * j + 1) := by
      rw [zt_ac hj3 hu, if_neg huv, zo_learn_a (by omega)]
    have s1 : u2 (zt T v s (zo_learn Q e F (2 * j))) (qS v s j + 1) e (Q 1 (6 * e + 2 * j) ||| F (2 * j)) = zt T v s (zo_learn Q e F (2 * j + 1)) := by
      have := zt_ul (T := T) (v := v) (s := s) (Q := zo_learn Q e F (2 * j)) (i := 0) (y := Q 1 (6 * e + 2 * j) ||| F (2 * j)) hu huv hj3 (by decide)
      rw [show 6 * e + 2 * j + 0 = 6 * e + 2 * j from rfl, zo_learn_s] at this
      exact this
    have s2 : u2 (zt T v s (zo_learn Q e F (2 * j + 1))) (qS v s j + 2) e (Q 1 (6 * e + 2 * j + 1) ||| F (2 * j + 1)) = zt T v s (zo_learn Q e F (2 * (j + 1))) := by
      have := zt_ul (T := T) (v := v) (s := s) (Q := zo_learn Q e F (2 * j + 1)) (i := 1) (y := Q 1 (6 * e + 2 * j + 1) ||| F (2 * j + 1)) hu huv hj3 (by decide)
      rw [show 6 * e + 2 * j + 1 = 6 * e + (2 * j + 1) by omega, zo_learn_s] at this
      rw [show 6 * e + 2 * j + 1 = 6 * e + (2 * j + 1) by omega]
      exact this
    rw [zf_Agreement_learn_2, if_neg (nI_ge (by omega) (by decide)), xa_c _ _ _ _ hv hs, zbs, yok hv hs hj3, zbs]
    dsimp only
    rw [xs_g4 _ _ _ _ hv hs hj3, zbs, yen_0 ha hA, zbs, xb_l _ _ _ _ hv hs hj3 hu, zbs, yen_2 ha hA, zbs, yar_l hb hb1 hj3, zbs, w1, F1, zn_or, xb_s _ _ _ _ hv hs hj3 hu, zbs, s1, xs_g5 _ _ _ _ hv hs hj3, zbs, yen_0 ha hA, zbs, xc_l _ _ _ _ hv hs hj3 hu, zbs, yen_3 ha hA, zbs, yar_l hc hc1 hj3, zbs, w2, F2, zn_or, xc_s _ _ _ _ hv hs hj3 hu, zbs, s2, nI_add]
    exact ih (j + 1) fu (by omega) (by omega)
theorem zo_dq_B (hI : zi N S) (hv : v < 5) (hs : S 7 v < 3) {k : Nat} (hk : k < 120) : zq_B (zo_dq S k v) := by
  unfold zo_dq
  exact zq_learn_B (zi_B hI hv hs) (fun q hq => hI.2.2.2.2.2.2.2.2.2.1 _ (by omega)) (by decide)
theorem zo_dq_8 (hI : zi N S) (hv : v < 5) (hs : S 7 v < 3) {k : Nat} : zo_dq S k v 0 8 = 0 := by
  have := zw_get_8 hI hv hs
  unfold zo_dq zo_learn
  rw [if_neg (by omega)]; exact this
theorem y_deliver (hI : zi N S) (hJ : zj S) (hR : yR d x T U S) (k y : Int32) : yOK d x (zo_deliver S k y) (zf_TL_deliver x k y (zx d x T U)) := by
  have e0 := hR.1.1
  have hf : T 0 0 < 32 := by rw [e0]; exact hI.1
  have h120 := hI.2.2.1
  have none : zo_deliver S k y = (nI 0, S) → zf_TL_deliver x k y (zx d x T U) = some (nI 0, zx d x T U) → yOK d x (zo_deliver S k y) (zf_TL_deliver x k y (zx d x T U)) := by
    intro h1 h2
    rw [h1, h2]
    exact ⟨d, T, U, rfl, hR, yF_r⟩
  have ew : zf_TL_isWithin k (nI 0) (nI 119) (zx d x T U) = some (nI (zo_kin 120 k).toNat, zx d x T U) := by
    rw [yw, zo_in (show 119 < 2 ^ 31 by decide)]
  cases hk : zo_kin 120 k
  · apply none
    · unfold zo_deliver
      rw [if_neg (fun h => by
        obtain ⟨j, h1, h2⟩ := zo_kin_t h.1
        rw [h2, zo_kin_i (show j < 120 by omega)] at hk
        cases hk)]
    · unfold zf_TL_deliver zf_TL_deliver_18
      rw [ew, zbs, hk]
      dsimp only
      rw [if_pos (by decide)]
  · obtain ⟨j, hj, rfl⟩ := zo_kin_t hk
    have cj : (nI j).toNatClampNeg = j := nI_clamp (by omega)
    cases hg : zo_good (S 0 0) y
    · apply none
      · unfold zo_deliver; rw [if_neg (by simp [hg])]
      · unfold zf_TL_deliver zf_TL_deliver_18
        rw [ew, zbs, hk]
        dsimp only
        rw [if_neg (by decide), xo_c, zbs, yatw0 hf (by rw [e0]; exact hg), zbs]
        dsimp only
        rw [if_pos (by decide)]
    · obtain ⟨v, hv, rfl, hfv⟩ := zo_good_t hg
      obtain ⟨n1, n2, n3, n4, n5⟩ := hI.2.2.2.2.2.2.2.1 v hv
      obtain ⟨t2, t3⟩ := hR.1.2.2.2.2 v hv
      have hat : zf_TL_isAtWork x (nI v) (zx d x T U) = some (nI (decide (S 7 v < 3)).toNat, zx d x T U) := by
        rw [yatw hf hv (by rw [e0]; exact hg) (by omega), t2]
      have cv : (nI v).toNatClampNeg = v := nI_clamp (by omega)
      have zk16 : zo_kin (S 16 0) (nI j) = decide (j < S 16 0) := zo_kin_n (by omega) (by omega)
      by_cases h3 : S 7 v = 3
      · apply none
        · unfold zo_deliver; rw [cv, cj, if_neg (fun h => by
            have h1 := h.1
            rw [zk16] at h1
            have := (hI.2.2.2.2.2.2.2.2.1 j (of_decide_eq_true h1)).2
            have := h.2.2.2
            omega)]
        · unfold zf_TL_deliver zf_TL_deliver_18
          rw [ew, zbs, hk]
          dsimp only
          rw [if_neg (by decide), xo_c, zbs, hat, zbs, decide_eq_false (by omega)]
          dsimp only
          rw [if_pos (by decide)]
      · have hs : S 7 v < 3 := by omega
        by_cases hjm : j < S 16 0
        · obtain ⟨a, b, c, a1, a2, a3, b2, b3, c2, c3, a4, ⟨f, b4, b5⟩, ⟨g, c4, c5⟩⟩ := (hR.2.2.2.2.2.2.1 j hj).1 hjm
          obtain ⟨m1, m2⟩ := hI.2.2.2.2.2.2.2.2.1 j hjm
          have ha : x + 191 ≤ a := by omega
          have pre : zf_TL_deliver x (nI j) (nI v) (zx d x T U) = if S 17 j = v then some (nI 0, zx d x T U) else if S 18 j = S 7 v then
              (zf_Agreement_learn (x + qA v (S 7 v)) a (zx d x T U)).bind fun (_, σ31) =>
              (zg_c σ31 (x + qA v (S 7 v)) 1).bind fun _ =>
              (zf_Agreement_stir (x + qA v (S 7 v)) σ31).bind fun (_, σ35) =>
              (zg_r σ35 x 0 2).bind fun b38 =>
              (za_ln σ35 b38 4 (nI v)).bind fun b39 =>
              (zg_i σ35 (x + qA v (S 7 v)) 1 10).bind fun v42 =>
              (zg_c σ35 x 0).bind fun _ =>
              (zf_TL_closeSlot x b39 v42 σ35).bind fun (_, σ45) =>
              some ((nI 1), σ45) else some (nI 0, zx d x T U) := by
            unfold zf_TL_deliver zf_TL_deliver_18 zf_TL_deliver_55
            rw [ew, zbs, hk]
            dsimp only
            rw [if_neg (by decide), xo_c, zbs, hat, zbs, decide_eq_true hs]
            dsimp only
            rw [if_neg (by decide), xo_g4, zbs, xml_l _ _ _ _ hj, zbs, a1]
            dsimp only
            rw [yen_0 ha a4, zbs]
            by_cases q1 : S 17 j = v
            · rw [if_pos (by rw [q1]), if_pos q1]
            · rw [if_neg (fun h => q1 ((nI_eq (by omega) (by omega)).mp h)), if_neg q1, yen_1 ha a4, zbs, xo_g2, zbs, xns_l _ _ _ _ hv, zbs, xn_g2 _ _ _ _ hv, zbs, t2]
              by_cases q2 : S 18 j = S 7 v
              · rw [if_pos (by rw [q2]), if_pos q2, zbs, xns_l _ _ _ _ hv, zbs, xn_g0 _ _ _ _ hv, zbs, zbs, q2, xas_l _ _ _ _ hv hs, zbs, xa_c _ _ _ _ hv hs, zbs]
              · rw [if_neg (fun h => q2 ((nI_eq (by omega) (by omega)).mp h)), if_neg q2]
          by_cases q1 : S 17 j = v
          · apply none
            · unfold zo_deliver; rw [cv, cj, if_neg (fun h => h.2.2.1 q1)]
            · rw [pre, if_pos q1]
          · by_cases q2 : S 18 j = S 7 v
            · have hz : zo_deliver S (nI j) (nI v) = (nI 1, zo_stir S v (zo_dq S j v)) := by
                unfold zo_deliver; rw [cv, cj, if_pos ⟨by rw [zk16, decide_eq_true hjm], hg, q1, q2⟩]
              rw [hz, pre, if_neg q1, if_pos q2]
              have hzt : zt T v (S 7 v) (zw_get S v) = T := yR_zt (hR.2.1 v (S 7 v) hv hs) (hR.2.2.1 v (S 7 v) hv hs (Nat.le_refl _)) rfl hv
              have el : zf_Agreement_learn (x + qA v (S 7 v)) a (zx d x T U) = some ((), zx d x (zt T v (S 7 v) (zo_dq S j v)) U) := by
                have key := yln2 (T := T) (U := U) (Q := zw_get S v) (F := fun q => S 19 (6 * j + q)) hv hs m1 q1 ha (show x + 191 ≤ b by omega) (show x + 191 ≤ c by omega) a4 b4 c4 (fun i hi => ⟨b5 i hi, by rw [c5 i hi, Nat.add_assoc]⟩) 3 0 6 (by decide) (by decide)
                have h0 : zo_learn (zw_get S v) (S 17 j) (fun q => S 19 (6 * j + q)) (2 * 0) = zw_get S v := by
                  funext c' j'
                  unfold zo_learn
                  rw [if_neg (by omega)]
                rw [h0, hzt] at key
                exact key
              obtain ⟨T5, o, d', T', U', c1', c2', c3', c4', c5'⟩ := yend (Q := zo_dq S j v) hI hJ hR hv hs (zo_dq_B hI hv hs hj) (zo_dq_8 hI hv hs)
              refine ⟨d', T', U', ?_, c4', c5'⟩
              rw [el, zbs]
              dsimp only
              rw [xa_c _ _ _ _ hv hs, zbs, c1', zbs]
              dsimp only
              rw [xo_g2, zbs, xns_l _ _ _ _ hv, zbs, xa_g10 _ _ _ _ hv hs, zbs, xo_c, zbs, c2', c3', zbs]
            · apply none
              · unfold zo_deliver; rw [cv, cj, if_neg (fun h => q2 h.2.2.2)]
              · rw [pre, if_neg q1, if_neg q2]
        · apply none
          · unfold zo_deliver; rw [if_neg (fun h => by
              have h1 := h.1
              rw [zk16] at h1
              exact hjm (of_decide_eq_true h1))]
          · unfold zf_TL_deliver zf_TL_deliver_18 zf_TL_deliver_55
            rw [ew, zbs, hk]
            dsimp only
            rw [if_neg (by decide), xo_c, zbs, hat, zbs, decide_eq_true hs]
            dsimp only
            rw [if_neg (by decide), xo_g4, zbs, xml_l _ _ _ _ hj, zbs, (hR.2.2.2.2.2.2.1 j hj).2 (by omega)]
end YD
