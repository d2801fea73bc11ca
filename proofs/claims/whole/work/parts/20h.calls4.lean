/-! The class's calls: trust, submit. -/
section YTS
variable {d : za_h} {x v : Nat} {T : Nat → Nat → Nat} {U : Nat → Nat → Option Nat} {S : Nat → Nat → Nat} {N : Nat}
theorem ybec (hv : v < 5) {t me inn gr : Nat} (hi : inn < 2 ^ 31) : zf_Trust_become (x + (3 + v)) (nI t) (nI me) (nI inn) (nI gr) (zx d x T U) = some ((), zx d x (u2 (u2 (u2 (u2 T (3 + v) 0 t) (3 + v) 1 me) (3 + v) 2 inn) (3 + v) 3 (if inn = 0 then 0 else gr)) U) := by
  unfold zf_Trust_become zf_Trust_become_26
  rw [xt_p0 _ _ _ _ _ hv, zbs, xt_p1 _ _ _ _ _ hv, zbs, xt_p2 _ _ _ _ _ hv, zbs]
  by_cases h : inn = 0
  · rw [if_pos ((zn_le0 hi).mpr h), if_pos h, xt_p3 _ _ _ _ _ hv, zbs]
  · rw [if_neg (fun q => h ((zn_le0 hi).mp q)), if_neg h, xt_p3 _ _ _ _ _ hv, zbs]
theorem yR_trust (hR : yR d x T U S) {t me inn gr : Nat} : yR d x (u2 (u2 (u2 (u2 T (3 + v) 0 t) (3 + v) 1 me) (3 + v) 2 inn) (3 + v) 3 (if inn = 0 then 0 else gr)) U (zs_tab (u2 (u2 (u2 (u2 S 2 v t) 3 v me) 4 v inn) 5 v gr) 32) ∨ ¬ v < 5 := by
  by_cases hv : v < 5
  · refine Or.inl ?_
    have r : ∀ k, k < 2 ∨ 6 < k → zs_tab (u2 (u2 (u2 (u2 S 2 v t) 3 v me) 4 v inn) 5 v gr) 32 k = S k := by
      intro k hk
      funext b
      unfold zs_tab
      rw [if_neg (by omega), u2_k (by omega), u2_k (by omega), u2_k (by omega), u2_k (by omega)]
    have r' : ∀ k b, k ≠ 6 → zs_tab (u2 (u2 (u2 (u2 S 2 v t) 3 v me) 4 v inn) 5 v gr) 32 k b = u2 (u2 (u2 (u2 S 2 v t) 3 v me) 4 v inn) 5 v gr k b := by
      intro k b hk
      unfold zs_tab
      rw [if_neg (by omega)]
    have rT : ∀ q, q ≠ 3 + v → u2 (u2 (u2 (u2 T (3 + v) 0 t) (3 + v) 1 me) (3 + v) 2 inn) (3 + v) 3 (if inn = 0 then 0 else gr) q = T q := by
      intro q hq
      rw [u2_row hq, u2_row hq, u2_row hq, u2_row hq]
    obtain ⟨g1, g2, g3, g4, g5⟩ := hR.1
    refine yR_fr hR ⟨?_, ?_, ?_, fun w hw => ?_, fun w hw => ?_⟩ (fun q j hq => by rw [rT q (by omega)]) (fun k hk => r k (by omega)) (fun _ _ => rfl) (Nat.le_refl _) (fun _ _ _ => rfl) (yRt_fr hR.2.2.2.2.2.1 rfl (fun k h1 h2 => r k (by omega)) (Nat.le_refl _) (fun _ _ _ => rfl)) (yRm_fr hR.2.2.2.2.2.2.1 rfl (fun k h1 h2 => r k (by omega)) (Nat.le_refl _) (fun _ _ _ => rfl))
    · rw [rT 0 (by omega), r 0 (by omega)]; exact g1
    · rw [rT 0 (by omega), r 16 (by omega)]; exact g2
    · rw [rT 0 (by omega), r 1 (by omega)]; exact g3
    · rw [r' 2 _ (by decide), r' 3 _ (by decide), r' 4 _ (by decide), r' 5 _ (by decide)]
      by_cases hwv : w = v
      · subst hwv
        simp [u2]
      · rw [rT (3 + w) (by omega), u2_i hwv, u2_i hwv, u2_i hwv, u2_i hwv, u2_i hwv, u2_i hwv, u2_i hwv, u2_i hwv, u2_i hwv, u2_i hwv, u2_i hwv, u2_i hwv, u2_i hwv, u2_i hwv, u2_i hwv, u2_i hwv]
        exact g4 w hw
    · rw [rT (qN w) (by unfold qN; omega), r 7 (by omega), r 15 (by omega)]; exact g5 w hw
  · exact Or.inr hv
theorem y_trust (hI : zi N S) (hR : yR d x T U S) (a t me inn gr : Int32) : yOK d x (zo_trust S a t me inn gr) (zf_TL_trust x a t me inn gr (zx d x T U)) := by
  have none : ∀ e : Option (Int32 × za_h), (zo_kin 5 a && zo_r 1 6 t && zo_kin 32 me && zo_kin 32 gr && zo_kin 6 inn && S 1 0 == 0) = false → e = some (nI 0, zx d x T U) → yOK d x (zo_trust S a t me inn gr) e := by
    intro e h1 h2
    unfold zo_trust
    rw [h1, h2]
    exact ⟨d, T, U, rfl, hR, yF_r⟩
  have f54 : zf_TL_trust_54 x a t me inn gr (zx d x T U) = some (nI 0, zx d x T U) := by
    unfold zf_TL_trust_54 zf_TL_trust_55 zf_TL_trust_69
    rw [if_pos (by decide)]
  have e6 : decide (nI 1 ≤ t ∧ t ≤ nI 6) = zo_r 1 6 t := rfl
  unfold zf_TL_trust
  rw [yw, zbs, zo_in (show 4 < 2 ^ 31 by decide)]
  dsimp only
  cases h1 : zo_kin 5 a
  · rw [if_pos (by decide)]; exact none _ (by simp [h1]) f54
  · rw [if_neg (by decide), yw, zbs, e6]
    dsimp only
    cases h2 : zo_r 1 6 t
    · rw [if_pos (by decide)]; exact none _ (by simp [h2]) f54
    · rw [if_neg (by decide), yw, zbs, zo_in (show 31 < 2 ^ 31 by decide)]
      dsimp only
      cases h3 : zo_kin 32 me
      · rw [if_pos (by decide)]; exact none _ (by simp [h3]) f54
      · rw [if_neg (by decide), yw, zbs, zo_in (show 5 < 2 ^ 31 by decide)]
        dsimp only
        cases h4 : zo_kin 6 inn
        · rw [if_pos (by decide)]; exact none _ (by simp [h4]) f54
        · rw [if_neg (by decide), yw, zbs, zo_in (show 31 < 2 ^ 31 by decide)]
          dsimp only
          cases h5 : zo_kin 32 gr
          · rw [if_pos (by decide)]; exact none _ (by simp [h5]) f54
          · rw [if_neg (by decide)]
            unfold zf_TL_trust_55 zf_TL_trust_69
            have h10 := hI.2.1
            rw [if_neg (by decide), xo_g6, zbs, hR.1.2.2.1]
            by_cases hb : S 1 0 = 0
            · rw [if_pos ((zn_eq0 (by omega)).mpr hb), xo_g1, zbs]
              obtain ⟨v, hv, rfl⟩ := zo_kin_t h1
              obtain ⟨t, ht1, ht2, rfl⟩ := zo_r_t (by decide) h2 (by decide)
              obtain ⟨me, hm, rfl⟩ := zo_kin_t h3
              obtain ⟨inn, hi, rfl⟩ := zo_kin_t h4
              obtain ⟨gr, hg, rfl⟩ := zo_kin_t h5
              rw [xq_g0, zbs, xts_l _ _ _ _ hv, zbs, xt_c _ _ _ _ hv, zbs, ybec hv (by omega), zbs]
              unfold zo_trust
              rw [h1, h2, h3, h4, h5, nI_clamp (show v < 2 ^ 31 by omega), nI_clamp (show t < 2 ^ 31 by omega), nI_clamp (show me < 2 ^ 31 by omega), nI_clamp (show inn < 2 ^ 31 by omega), nI_clamp (show gr < 2 ^ 31 by omega), if_pos (by simp [hb])]
              rcases yR_trust (v := v) (t := t) (me := me) (inn := inn) (gr := gr) hR with h | h
              · exact ⟨d, _, U, rfl, h, yF_r⟩
              · exact absurd hv h
            · rw [if_neg (fun h => hb ((zn_eq0 (by omega)).mp h))]
              exact none _ (by simp [hb]) rfl
theorem yleft2 (hI : zi N S) (hR : yR d x T U S) {s : Nat} (hs : s < 3) : ∀ r u f, u + r = 5 → r < f → zf_TL_isLeft_2 f x (nI s) (nI u) (zx d x T U) = some (nI (!((List.range' u r).all fun v => (S 0 0).testBit v || decide (S 7 v ≤ s))).toNat, zx d x T U) := by
  intro r
  induction r with
  | zero =>
    intro u f hu hf
    obtain ⟨f, rfl⟩ : ∃ q, f = q + 1 := ⟨f - 1, by omega⟩
    obtain rfl : u = 5 := by omega
    rw [zf_TL_isLeft_2, if_pos (Int32.le_refl _)]
    rfl
  | succ r ih =>
    intro u f hu hf
    obtain ⟨f, rfl⟩ : ∃ q, f = q + 1 := ⟨f - 1, by omega⟩
    have hu5 : u < 5 := by omega
    obtain ⟨n1, -⟩ := hI.2.2.2.2.2.2.2.1 u hu5
    rw [zf_TL_isLeft_2, if_neg (nI_ge hu5 (by decide)), xo_g2, zbs, xns_l _ _ _ _ hu5, zbs, xn_g2 _ _ _ _ hu5, zbs, (hR.1.2.2.2.2 u hu5).1, List.range'_succ, List.all_cons]
    by_cases h : S 7 u ≤ s
    · rw [if_pos (nI_le h (by omega)), nI_add, ih (u + 1) f (by omega) (by omega), decide_eq_true h, Bool.or_true, Bool.true_and]
    · have hb : (S 0 0).testBit u = false := by
        cases hb : (S 0 0).testBit u with
        | false => rfl
        | true =>
          have := hI.2.2.2.2.2.2.2.2.2.2.2.2.2.2.1 u hu5 hb
          omega
      rw [if_neg (nI_ge (by omega) (by omega)), decide_eq_false h, hb, Bool.or_false, Bool.false_and]
      rfl
theorem yleft (hI : zi N S) (hR : yR d x T U S) {s : Nat} (hs : s < 3) : zf_TL_isLeft x (nI s) (zx d x T U) = some (nI (!zo_open S s).toNat, zx d x T U) := by
  unfold zf_TL_isLeft
  rw [yleft2 hI hR hs 5 0 6 (by decide) (by decide)]
  rfl
theorem ytinit (hd : x + 191 ≤ d.2) {p q r w y : Int32} : zf_Transaction_init d.2 p q r w y (zx (za_n d (.inr (8, [.int 0, .int 0, .int 0, .int 0, .int 0]))) x T U) = some ((), zx (za_n d (.inr (8, [.int p, .int q, .int r, .int w, .int y]))) x T U) := by
  unfold zf_Transaction_init
  rw [znp hd (Nat.le_of_ble_eq_true rfl), zbs, znp hd (Nat.le_of_ble_eq_true rfl), zbs, znp hd (Nat.le_of_ble_eq_true rfl), zbs, znp hd (Nat.le_of_ble_eq_true rfl), zbs, znp hd (Nat.le_of_ble_eq_true rfl), zbs]
  rfl
theorem yR_submit (hR : yR d x T U S) {p kd fr wh ot am : Nat} (hp : p < 9) : yR (za_n d (ytx kd fr wh ot am)) x T (uu U 189 p (some d.2)) (u2 (u2 (u2 (u2 (u2 (u2 S 20 p 1) 21 p kd) 22 p fr) 23 p wh) 24 p ot) 25 p am) := by
  have r : ∀ k, k < 20 ∨ 25 < k → u2 (u2 (u2 (u2 (u2 (u2 S 20 p 1) 21 p kd) 22 p fr) 23 p wh) 24 p ot) 25 p am k = S k := by
    intro k hk
    rw [u2_row (by omega), u2_row (by omega), u2_row (by omega), u2_row (by omega), u2_row (by omega), u2_row (by omega)]
  have hd := hR.2.2.2.2.2.2.2
  have ho : ∀ b, b < d.2 → x + 221 ≤ b → (za_n d (ytx kd fr wh ot am)).1 b = d.1 b := fun b h1 h2 => za_n_o (by omega)
  have hd2 : d.2 ≤ (za_n d (ytx kd fr wh ot am)).2 := Nat.le_succ _
  have hU : ∀ q, q ≠ 189 → uu U 189 p (some d.2) q = U q := by
    intro q hq
    funext j
    unfold uu
    rw [if_neg (fun h => hq h.1)]
  obtain ⟨g1, g2, g3, g4, g5⟩ := hR.1
  refine yR_fr hR ⟨?_, ?_, ?_, fun w hw => ?_, fun w hw => ?_⟩ (fun q j hq => rfl) (fun k hk => r k (by omega)) (fun w hw => hU _ (by unfold qL; omega)) hd2 ho ?_ (yRm_fr hR.2.2.2.2.2.2.1 (hU 190 (by decide)) (fun k h1 h2 => r k (by omega)) hd2 ho)
  · rw [r 0 (by omega)]; exact g1
  · rw [r 16 (by omega)]; exact g2
  · rw [r 1 (by omega)]; exact g3
  · rw [r 2 (by omega), r 3 (by omega), r 4 (by omega), r 5 (by omega)]; exact g4 w hw
  · rw [r 7 (by omega), r 15 (by omega)]; exact g5 w hw
  · intro k hk
    by_cases hkp : k = p
    · subst hkp
      refine ⟨fun _ => ⟨d.2, ?_, hd, Nat.lt_succ_self _, ?_⟩, fun h => absurd ?_ h⟩
      · unfold uu; rw [if_pos ⟨rfl, rfl⟩]
      · rw [za_n_s]
        simp [u2]
      · simp [u2]
    · rw [u2_i hkp, u2_i hkp, u2_i hkp, u2_i hkp, u2_i hkp, u2_i hkp, u2_i hkp, u2_i hkp, u2_i hkp, u2_i hkp, u2_i hkp, u2_i hkp, u2_i hkp, u2_i hkp, u2_i hkp, u2_i hkp, u2_i hkp, u2_i hkp, u2_i hkp, u2_i hkp, u2_i hkp, u2_i hkp, u2_i hkp, u2_i hkp, u2_i hkp, u2_i hkp, u2_i hkp, u2_i hkp, u2_i hkp, u2_i hkp, u2_i hkp, u2_i hkp, u2_i hkp, u2_i hkp, u2_i hkp, u2_i hkp]
      have hUk : uu U 189 p (some d.2) 189 k = U 189 k := by unfold uu; rw [if_neg (fun h => hkp h.2)]
      rw [hUk]
      refine ⟨fun h => ?_, (hR.2.2.2.2.2.1 k hk).2⟩
      obtain ⟨a, a1, a2, a3, a4⟩ := (hR.2.2.2.2.2.1 k hk).1 h
      exact ⟨a, a1, a2, Nat.lt_succ_of_lt a3, by rw [ho a a3 a2]; exact a4⟩
theorem y_submit (hI : zi N S) (hR : yR d x T U S) (s j kd fr wh ot am : Int32) : yOK d x (zo_submit S s j kd fr wh ot am) (zf_TL_submit x s j kd fr wh ot am (zx d x T U)) := by
  have none : ∀ e : Option (Int32 × za_h), (zo_kin 3 s && zo_kin 3 j && zo_kin 2 kd && zo_kin 4 fr && zo_kin 2 wh && zo_r 1 1000 am && zo_fits kd ot && zo_open S s.toNatClampNeg && S 20 (zo_place s j) == 0) = false → e = some (nI 0, zx d x T U) → yOK d x (zo_submit S s j kd fr wh ot am) e := by
    intro e h1 h2
    unfold zo_submit
    rw [h1, h2]
    exact ⟨d, T, U, rfl, hR, yF_r⟩
  have f85 : zf_TL_submit_85 x s j kd fr wh ot am (zx d x T U) = some (nI 0, zx d x T U) := by
    unfold zf_TL_submit_85 zf_TL_submit_86 zf_TL_submit_101
    rw [if_pos (by decide)]
  have e6 : decide (nI 1 ≤ am ∧ am ≤ nI 1000) = zo_r 1 1000 am := rfl
  have e9 : decide (nI 1 ≤ ot ∧ ot ≤ nI 9) = zo_r 1 9 ot := rfl
  have hz0 : (kd = 0) = (kd = nI 0) := rfl
  unfold zf_TL_submit
  rw [ysl, zbs]
  dsimp only
  cases h1 : zo_kin 3 s
  · rw [if_pos (by decide)]; exact none _ (by simp [h1]) f85
  · rw [if_neg (by decide), yw, zbs, zo_in (show 2 < 2 ^ 31 by decide)]
    dsimp only
    cases h2 : zo_kin 3 j
    · rw [if_pos (by decide)]; exact none _ (by simp [h2]) f85
    · rw [if_neg (by decide), yw, zbs, zo_in (show 1 < 2 ^ 31 by decide)]
      dsimp only
      cases h3 : zo_kin 2 kd
      · rw [if_pos (by decide)]; exact none _ (by simp [h3]) f85
      · rw [if_neg (by decide), yac, zbs]
        dsimp only
        cases h4 : zo_kin 4 fr
        · rw [if_pos (by decide)]; exact none _ (by simp [h4]) f85
        · rw [if_neg (by decide), yw, zbs, zo_in (show 1 < 2 ^ 31 by decide)]
          dsimp only
          cases h5 : zo_kin 2 wh
          · rw [if_pos (by decide)]; exact none _ (by simp [h5]) f85
          · rw [if_neg (by decide)]
            have mid : zo_fits kd ot = true → yOK d x (zo_submit S s j kd fr wh ot am) (zf_TL_submit_69 x s j kd fr wh ot am (zx d x T U)) := by
              intro hft
              unfold zf_TL_submit_69
              rw [yw, zbs, e6]
              dsimp only
              cases h6 : zo_r 1 1000 am
              · rw [if_pos (by decide)]; exact none _ (by simp [h6]) f85
              · rw [if_neg (by decide)]
                unfold zf_TL_submit_86 zf_TL_submit_101
                obtain ⟨s, hs, rfl⟩ := zo_kin_t h1
                obtain ⟨j, hj, rfl⟩ := zo_kin_t h2
                obtain ⟨kd, hkd, rfl⟩ := zo_kin_t h3
                obtain ⟨fr, hfr, rfl⟩ := zo_kin_t h4
                obtain ⟨wh, hwh, rfl⟩ := zo_kin_t h5
                obtain ⟨am, ha1, ha2, rfl⟩ := zo_r_t (by decide) h6 (by decide)
                have cs : (nI s).toNatClampNeg = s := nI_clamp (by omega)
                have cj : (nI j).toNatClampNeg = j := nI_clamp (by omega)
                have hp : zo_place (nI s) (nI j) = 3 * s + j := by unfold zo_place; rw [cs, cj]
                have h9 : 3 * s + j < 9 := by omega
                rw [if_neg (by decide), xo_c, zbs, yleft hI hR hs, zbs]
                dsimp only
                cases ho : zo_open S s
                · rw [if_neg (by decide)]; exact none _ (by simp [cs, ho]) rfl
                · rw [if_pos (by decide), xo_g3, zbs, pk_mul, nI_add, show s * 3 + j = 3 * s + j by omega, xtx_l _ _ _ _ h9, zbs]
                  have hset := (hI.2.2.2.2.2.2.2.2.2.2.1 (3 * s + j) h9).1
                  by_cases hz : S 20 (3 * s + j) = 0
                  · rw [(hR.2.2.2.2.2.1 _ h9).2 (by omega)]
                    dsimp only
                    have hd := hR.2.2.2.2.2.2.2
                    have hot : ∃ on, on < 2 ^ 31 ∧ ot = nI on := by
                      unfold zo_fits at hft
                      split at hft
                      · obtain ⟨o, ho, rfl⟩ := zo_kin_t hft; exact ⟨o, by omega, rfl⟩
                      · obtain ⟨o, ho, ho2, rfl⟩ := zo_r_t (by decide) hft (by decide); exact ⟨o, by omega, rfl⟩
                    obtain ⟨ot, hot, rfl⟩ := hot
                    rw [zbs, zx_2, zx_nd (by omega), ytinit (by omega), zbs]
                    dsimp only
                    have esq := zx_sq (d := za_n d (.inr (8, [.int (nI kd), .int (nI fr), .int (nI wh), .int (nI ot), .int (nI am)]))) (x := x) (q := 189) (t := 6) (n := 9) (ci := 8) (i := 3 * s + j) (T := T) (U := U) (o := some d.2) (by decide) (fun U => zc_tx) h9 (by decide) (fun a ha => by
                      cases ha
                      unfold zg_c
                      rw [zx_out (Or.inr (by omega)), za_n_s]
                      rfl)
                    rw [esq, zbs]
                    unfold zo_submit
                    rw [h1, h2, h3, h4, h5, h6, hft, cs, hp, ho, if_pos (by simp [hz]), nI_clamp (show kd < 2 ^ 31 by omega), nI_clamp (show fr < 2 ^ 31 by omega), nI_clamp (show wh < 2 ^ 31 by omega), nI_clamp hot, nI_clamp (show am < 2 ^ 31 by omega)]
                    exact ⟨_, _, _, rfl, yR_submit hR h9, Nat.le_succ _, fun b hb => za_n_o (by omega)⟩
                  · obtain ⟨a, a1, -⟩ := (hR.2.2.2.2.2.1 _ h9).1 (by omega)
                    rw [a1]
                    exact none _ (by simp [hp, hz]) rfl
            by_cases hk0 : kd = nI 0
            · rw [if_pos (by rw [hz0]; exact hk0), yac, zbs]
              dsimp only
              have hfe : zo_fits kd ot = zo_kin 4 ot := by unfold zo_fits; rw [if_pos hk0]
              cases h7 : zo_kin 4 ot
              · rw [if_pos (by decide)]; exact none _ (by simp [hfe, h7]) f85
              · rw [if_neg (by decide)]; exact mid (by rw [hfe, h7])
            · rw [if_neg (by rw [hz0]; exact hk0), yw, zbs, e9]
              dsimp only
              have hfe : zo_fits kd ot = zo_r 1 9 ot := by unfold zo_fits; rw [if_neg hk0]
              cases h7 : zo_r 1 9 ot
              · rw [if_pos (by decide)]; exact none _ (by simp [hfe, h7]) f85
              · rw [if_neg (by decide)]; exact mid (by rw [hfe, h7])
end YTS
