/-! The class's calls: propose, timeout. -/
/-- no value yet in the slots not closed -/
def zj (S : Nat → Nat → Nat) : Prop := ∀ v s, v < 5 → s < 3 → S 7 v ≤ s → S 14 (3 * v + s) = 0
def yOK (d : za_h) (x : Nat) (r : Int32 × (Nat → Nat → Nat)) (e : Option (Int32 × za_h)) : Prop := ∃ d' T' U', e = some (r.1, zx d' x T' U') ∧ yR d' x T' U' r.2 ∧ yF x d d'
theorem zo_kin_n {e k : Nat} (hk : k < 2 ^ 31) (he : e < 2 ^ 31) : zo_kin e (nI k) = decide (k < e) := by
  by_cases h : k < e
  · rw [zo_kin_i h, decide_eq_true h]
  · rw [decide_eq_false h]
    cases hz : zo_kin e (nI k) with
    | false => rfl
    | true =>
      obtain ⟨j, h1, h2⟩ := zo_kin_t hz
      rw [nI_eq hk (by omega)] at h2
      omega
section YK
variable {d d' : za_h} {x v : Nat} {T T' : Nat → Nat → Nat} {U U' : Nat → Nat → Option Nat} {S S' : Nat → Nat → Nat} {Q : zq_Q} {N : Nat}
theorem yRt_fr (h : yRt d x U S) (hU : U' 189 = U 189) (hS : ∀ k, 20 ≤ k → k ≤ 25 → S' k = S k) (hd : d.2 ≤ d'.2) (hfr : ∀ b, b < d.2 → x + 221 ≤ b → d'.1 b = d.1 b) : yRt d' x U' S' := by
  intro k hk
  rw [hU, hS 20 (by decide) (by decide), hS 21 (by decide) (by decide), hS 22 (by decide) (by decide), hS 23 (by decide) (by decide), hS 24 (by decide) (by decide), hS 25 (by decide) (by decide)]
  refine ⟨fun h1 => ?_, (h k hk).2⟩
  obtain ⟨a, a1, a2, a3, a4⟩ := (h k hk).1 h1
  exact ⟨a, a1, a2, by omega, by rw [hfr a a3 a2]; exact a4⟩
theorem yRm_fr (h : yRm d x U S) (hU : U' 190 = U 190) (hS : ∀ k, 16 ≤ k → k ≤ 19 → S' k = S k) (hd : d.2 ≤ d'.2) (hfr : ∀ b, b < d.2 → x + 221 ≤ b → d'.1 b = d.1 b) : yRm d' x U' S' := by
  intro k hk
  rw [hU, hS 16 (by decide) (by decide), hS 17 (by decide) (by decide), hS 18 (by decide) (by decide), hS 19 (by decide) (by decide)]
  refine ⟨fun h1 => ?_, (h k hk).2⟩
  obtain ⟨a, b, c, a1, a2, a3, b2, b3, c2, c3, a4, ⟨f, b4, b5⟩, ⟨g, c4, c5⟩⟩ := (h k hk).1 h1
  exact ⟨a, b, c, a1, a2, by omega, b2, by omega, c2, by omega, by rw [hfr a a3 a2]; exact a4, ⟨f, by rw [hfr b b3 b2]; exact b4, b5⟩, ⟨g, by rw [hfr c c3 c2]; exact c4, c5⟩⟩
theorem zv_get_r (hS : ∀ k, 26 ≤ k → S' k = S k) (y : Nat) : zv_get S' y = zv_get S y := by
  funext j i; unfold zv_get
  by_cases c0 : j = 0
  · rw [if_pos c0, if_pos c0, hS 26 (by decide)]
  · rw [if_neg c0, if_neg c0]
    by_cases c5 : j = 5
    · rw [if_pos c5, if_pos c5, hS 27 (by decide)]
    · rw [if_neg c5, if_neg c5, hS (27 + j) (by omega)]
theorem zw_get_r (hS : ∀ k, 7 ≤ k → k < 14 → S' k = S k) (y c j : Nat) (h : c ≠ 0 → c ≠ 1 → j < 4) : zw_get S' y c j = zw_get S y c j := by
  unfold zw_get
  by_cases c0 : c = 0
  · rw [if_pos c0, if_pos c0, hS 12 (by decide) (by decide), hS 7 (by decide) (by decide)]
  · rw [if_neg c0, if_neg c0]
    by_cases c1 : c = 1
    · rw [if_pos c1, if_pos c1, hS 13 (by decide) (by decide)]
    · rw [if_neg c1, if_neg c1, hS (8 + j) (by omega) (by have := h c0 c1; omega)]
theorem yR_fr (hR : yR d x T U S) (h0 : yR0 T' S') (hT : ∀ q j, 9 ≤ q → T' q j = T q j) (hS : ∀ k, (7 ≤ k ∧ k ≤ 15) ∨ 26 ≤ k → S' k = S k) (hU : ∀ v, v < 5 → U' (qL v + 3) = U (qL v + 3)) (hd : d.2 ≤ d'.2) (hfr : ∀ b, b < d.2 → x + 221 ≤ b → d'.1 b = d.1 b) (ht : yRt d' x U' S') (hm : yRm d' x U' S') : yR d' x T' U' S' := by
  obtain ⟨-, hA, hBb, hL, hD, -, -, hd0⟩ := hR
  have gA : ∀ v s, 9 ≤ qA v s := fun v s => by unfold qA; omega
  have gS : ∀ v s k, 9 ≤ qS v s k := fun v s k => by unfold qS; omega
  have gL : ∀ v, 9 ≤ qL v := fun v => by unfold qL; omega
  refine ⟨h0, fun v s hv hs => ?_, fun v s hv hs hle => ?_, fun v hv => ?_, ?_, ht, hm, by omega⟩
  · have h := hA v s hv hs
    refine ⟨by rw [hT _ _ (gA v s), hS 14 (Or.inl ⟨by decide, by decide⟩)]; exact h.1, fun k hk => ?_⟩
    have g := gS v s k
    rw [hT _ _ g, hT _ _ g, hT _ _ (by omega), hT _ _ (by omega), hS 12 (Or.inl ⟨by decide, by decide⟩)]
    exact h.2 k hk
  · rw [hS 7 (Or.inl ⟨by decide, by decide⟩)] at hle
    have h := hBb v s hv hs hle
    have eq : ∀ c j, (c ≠ 0 → c ≠ 1 → j < 4) → yRq S' v s c j = yRq S v s c j := by
      intro c j hc
      unfold yRq
      rw [hS 7 (Or.inl ⟨by decide, by decide⟩)]
      split
      · exact zw_get_r (fun k h1 h2 => hS k (Or.inl ⟨h1, by omega⟩)) v c j hc
      · rfl
    refine ⟨by rw [hT _ _ (gA v s), eq 2 3 (fun _ _ => by decide)]; exact h.1, fun j hj => by rw [hT _ _ (gA v s), eq 2 j (fun _ _ => by omega)]; exact h.2.1 j hj, fun k j hk hj hjv => ?_⟩
    have g := gS v s k
    rw [hT _ _ (by omega), hT _ _ (by omega), eq 1 _ (fun _ h => absurd rfl h), eq 1 _ (fun _ h => absurd rfl h)]
    exact h.2.2 k j hk hj hjv
  · have h := hL v hv
    have e := zv_get_r (S := S) (S' := S') (fun k hk => hS k (Or.inr hk)) v
    refine ⟨?_, ?_⟩
    · rw [e]
      funext q j
      have hq := congrFun (congrFun h.1 q) j
      have g := gL v
      unfold zk at hq ⊢
      by_cases c1 : q = qL v ∧ j = 3
      · rw [if_pos c1] at hq ⊢; rw [hq, hT _ _ (by omega)]
      · rw [if_neg c1] at hq ⊢
        by_cases c2 : q = qL v + 1 ∧ j < 4
        · rw [if_pos c2] at hq ⊢; rw [hq, hT _ _ (by omega)]
        · rw [if_neg c2] at hq ⊢
          by_cases c3 : q = qL v + 2 ∧ j < 4
          · rw [if_pos c3] at hq ⊢; rw [hq, hT _ _ (by omega)]
          · rw [if_neg c3]
    · rw [e, hU v hv]
      refine ⟨fun k hk => ?_, h.2.2⟩
      obtain ⟨a, h1, h2, h3, h4⟩ := h.2.1 k hk
      exact ⟨a, h1, h2, by omega, by rw [hfr a h3 h2]; exact h4⟩
  · intro v w i j a hv hw hi hj h1 h2
    rw [hU v hv] at h1
    rw [hU w hw] at h2
    exact hD v w i j a hv hw hi hj h1 h2
theorem yR_begun (hR : yR d x T U S) : yR d x (u2 T 0 6 1) U (u2 S 1 0 1) := by
  have r : ∀ k, k ≠ 1 → u2 S 1 0 1 k = S k := fun k hk => u2_row hk
  obtain ⟨g1, g2, g3, g4, g5⟩ := hR.1
  refine yR_fr hR ⟨?_, ?_, ?_, fun v hv => ?_, fun v hv => ?_⟩ (fun q j hq => u2_k (by omega)) (fun k hk => r k (by omega)) (fun _ _ => rfl) (Nat.le_refl _) (fun _ _ _ => rfl) (yRt_fr hR.2.2.2.2.2.1 rfl (fun k h1 h2 => r k (by omega)) (Nat.le_refl _) (fun _ _ _ => rfl)) (yRm_fr hR.2.2.2.2.2.2.1 rfl (fun k h1 h2 => r k (by omega)) (Nat.le_refl _) (fun _ _ _ => rfl))
  · rw [u2_i (by decide), r 0 (by decide)]; exact g1
  · rw [u2_i (by decide), r 16 (by decide)]; exact g2
  · rw [u2_s, u2_s]
  · have rt : u2 T 0 6 1 (3 + v) = T (3 + v) := u2_row (by omega)
    rw [rt, r 2 (by decide), r 3 (by decide), r 4 (by decide), r 5 (by decide)]; exact g4 v hv
  · have : qN v ≠ 0 := by unfold qN; omega
    rw [u2_k this, u2_k this, r 7 (by decide), r 15 (by decide)]; exact g5 v hv
theorem ygood (hf : T 0 0 < 32) (a : Int32) : zf_TL_isGood x a (zx d x T U) = some (nI (zo_good (T 0 0) a).toNat, zx d x T U) := by
  unfold zf_TL_isGood zf_TL_isGood_24 zf_TL_isGood_25
  simp only [yw, zbs, xo_g0, z010, z011, if_true]
  by_cases h : nI 0 ≤ a ∧ a ≤ nI 4
  · obtain ⟨v, hv, rfl⟩ := zn_5 h
    rw [decide_eq_true h, if_neg (by decide), yh (by omega) (by omega), zbs]
    dsimp only
    cases hb : (T 0 0).testBit v
    · rw [if_pos (by decide), zo_good_i hv hb]; rfl
    · rw [if_neg (by decide)]
      have : zo_good (T 0 0) (nI v) = false := by
        cases hg : zo_good (T 0 0) (nI v) with
        | false => rfl
        | true =>
          obtain ⟨w, h1, h2, h3⟩ := zo_good_t hg
          rw [← (nI_eq (by omega) (by omega)).mp h2, hb] at h3
          cases h3
      rw [this]; rfl
  · rw [decide_eq_false h, if_pos (by decide)]
    have : zo_good (T 0 0) a = false := by
      cases hg : zo_good (T 0 0) a with
      | false => rfl
      | true =>
        obtain ⟨w, h1, h2, h3⟩ := zo_good_t hg
        exact absurd (by rw [h2]; exact zn_b5 (by omega) (by decide)) h
    rw [this]; rfl
theorem yatw0 (hf : T 0 0 < 32) {a : Int32} (hg : zo_good (T 0 0) a = false) : zf_TL_isAtWork x a (zx d x T U) = some (nI 0, zx d x T U) := by
  unfold zf_TL_isAtWork zf_TL_isAtWork_27 zf_TL_isAtWork_28
  simp only [xo_c, zbs, ygood hf, hg]
  rw [if_pos (by decide), if_pos (by decide)]
theorem yatw (hf : T 0 0 < 32) (hv : v < 5) (hg : zo_good (T 0 0) (nI v) = true) (hs : T (qN v) 2 ≤ 3) : zf_TL_isAtWork x (nI v) (zx d x T U) = some (nI (decide (T (qN v) 2 < 3)).toNat, zx d x T U) := by
  unfold zf_TL_isAtWork zf_TL_isAtWork_27 zf_TL_isAtWork_28
  simp only [xo_c, zbs, ygood hf, hg]
  rw [if_neg (by decide), xo_g2, zbs, xns_l _ _ _ _ hv, zbs, xn_g2 _ _ _ _ hv, zbs, ysl, zbs, zo_kin_n (by omega) (by decide)]
  dsimp only
  by_cases h : T (qN v) 2 < 3
  · rw [decide_eq_true h, if_neg (by decide), if_pos (by decide)]; rfl
  · rw [decide_eq_false h, if_pos (by decide), if_pos (by decide)]; rfl
theorem zw_get_begun {y : Nat} : zw_get (u2 S 1 0 y) v = zw_get S v := by
  funext c j; unfold zw_get
  rw [u2_k (show (12 : Nat) ≠ 1 by decide), u2_k (show (7 : Nat) ≠ 1 by decide), u2_k (show (13 : Nat) ≠ 1 by decide), u2_k (show 8 + j ≠ 1 by omega)]
theorem zi_tx_r (hS : ∀ k, 20 ≤ k → k ≤ 25 → S' k = S k) (h : zi_tx S) : zi_tx S' := by
  intro k hk
  have := h k hk
  unfold zb_tx at this ⊢
  rw [hS 20 (by decide) (by decide), hS 21 (by decide) (by decide), hS 22 (by decide) (by decide), hS 23 (by decide) (by decide), hS 24 (by decide) (by decide), hS 25 (by decide) (by decide)]
  exact this
theorem zi_begun (hI : zi N S) : zi N (u2 S 1 0 1) := by
  obtain ⟨h1, h2, h3, h4, h5, h6, h7, h8, h9, h10, h11, h12, h13, h14, h15, h16⟩ := hI
  have r : ∀ k, k ≠ 1 → u2 S 1 0 1 k = S k := fun k hk => u2_row hk
  have ev : ∀ v, zv_get (u2 S 1 0 1) v = zv_get S v := fun v => zv_get_r (fun k hk => r k (by omega)) v
  have e11 : zi_tx (u2 S 1 0 1) := zi_tx_r (fun k a b => r k (by omega)) h11
  unfold zi zs_Tb
  simp only [zs_P_begun, ev, r 0 (by decide), r 2 (by decide), r 3 (by decide), r 4 (by decide), r 5 (by decide), r 6 (by decide), r 7 (by decide), r 8 (by decide), r 9 (by decide), r 10 (by decide), r 11 (by decide), r 12 (by decide), r 13 (by decide), r 14 (by decide), r 16 (by decide), r 17 (by decide), r 18 (by decide), r 19 (by decide), r 20 (by decide), r 21 (by decide), r 22 (by decide), r 23 (by decide), r 24 (by decide), r 25 (by decide), u2_s]
  exact ⟨h1, by decide, h3, h4, h5, h6, h7, h8, h9, h10, e11, h12, h13, h14, h15, h16⟩
theorem zj_begun (hJ : zj S) : zj (u2 S 1 0 1) := by
  intro v s hv hs h
  rw [u2_k (by decide)] at h ⊢
  exact hJ v s hv hs h
theorem yend (hI : zi N S) (hJ : zj S) (hR : yR d x T U S) (hv : v < 5) (hs : S 7 v < 3) (hB : zq_B Q) (h8 : Q 0 8 = 0) :
    ∃ T5 o d' T' U', zf_Agreement_stir (x + qA v (S 7 v)) (zx d x (zt T v (S 7 v) Q) U) = some ((), zx d x T5 U) ∧ T5 (qA v (S 7 v)) 10 = o ∧ zf_TL_closeSlot x (x + qN v) (nI o) (zx d x T5 U) = some ((), zx d' x T' U') ∧ yR d' x T' U' (zo_stir S v Q) ∧ yF x d d' := by
  have h10 : T (qA v (S 7 v)) 10 = 0 := by rw [(hR.2.1 v (S 7 v) hv hs).1]; exact hJ v _ hv hs (Nat.le_refl _)
  obtain ⟨d', T', U', c1, c2, c3⟩ := yclose hR hv hs hI.2.2.2.2.2.2.2.2.2.2.1 hI.2.2.2.2.2.2.2.2.2.2.2.1 (zq_stir (zs_P S) v 1000 Q)
  have e := ystir (d := d) (x := x) (U := U) (yR_T hR.1 hI.2.2.2.1) hv hs h10 hB h8
  rw [zq_stir_200, zqc_stir (fun set w hw => yR_P hR.1 set w hw) hv] at e
  exact ⟨_, _, d', T', U', e, yo_10 h10, c1, c2, c3⟩
theorem zo_pq_B (hI : zi N S) (hv : v < 5) (hs : S 7 v < 3) {y : Nat} (hy : y ≤ 7) : zq_B (zo_pq S v y) := by
  unfold zo_pq
  split
  · exact zq_nr_B hv zq_cand_tb (zq_B_u23 (zi_B hI hv hs) hy)
  · exact zq_B_u23 (zi_B hI hv hs) hy
theorem zw_get_8 (hI : zi N S) (hv : v < 5) (hs : S 7 v < 3) : zw_get S v 0 8 = 0 := hI.2.2.2.2.2.2.2.2.2.2.2.2.2.2.2 v hv hs
theorem zo_pq_8 (hI : zi N S) (hv : v < 5) (hs : S 7 v < 3) {y : Nat} : zo_pq S v y 0 8 = 0 := by
  have := zw_get_8 hI hv hs
  unfold zo_pq zq_nr
  split
  · rw [u2_k (by decide), u2_k (by decide), u2_k (by decide)]; exact this
  · rw [u2_k (by decide)]; exact this
theorem zo_tq_B (hI : zi N S) (hv : v < 5) (hs : S 7 v < 3) : zq_B (zo_tq S v) := by
  have hB := zi_B hI hv hs
  unfold zo_tq
  split
  · exact zq_nr_B hv zq_cand_tb hB
  · rename_i hc
    split
    · have hB2 := zq_B_u22 hB (y := S 10 v + 1) (by omega)
      have ht := zq_toP_b (Q := u2 (zw_get S v) 2 2 (S 10 v + 1)) (by rw [zq_comp_u2]; exact hc)
      refine zq_vote_B hB2 (by decide) ?_
      rw [u2_s]; omega
    · exact hB
theorem zo_tq_8 (hI : zi N S) (hv : v < 5) (hs : S 7 v < 3) : zo_tq S v 0 8 = 0 := by
  have := zw_get_8 hI hv hs
  unfold zo_tq zq_nr
  split
  · rw [u2_k (by decide), u2_k (by decide)]; exact this
  · split
    · rw [zq_vp_8, u2_k (by decide)]; exact this
    · exact this
theorem y_propose (hI : zi N S) (hJ : zj S) (hN : N ≤ 1900) (hR : yR d x T U S) (a b : Int32) : yOK d x (zo_propose S a b) (zf_TL_propose x a b (zx d x T U)) := by
  have e0 := hR.1.1
  have hf : T 0 0 < 32 := by rw [e0]; exact hI.1
  have none : zo_propose S a b = (nI 0, S) → zf_TL_propose x a b (zx d x T U) = some (nI 0, zx d x T U) → yOK d x (zo_propose S a b) (zf_TL_propose x a b (zx d x T U)) := by
    intro h1 h2
    rw [h1, h2]
    exact ⟨d, T, U, rfl, hR, yF_r⟩
  cases hg : zo_good (S 0 0) a
  · apply none
    · unfold zo_propose; rw [if_neg (by simp [hg])]
    · unfold zf_TL_propose zf_TL_propose_18
      rw [xo_c, zbs, yatw0 hf (by rw [e0]; exact hg), zbs]
      dsimp only
      rw [if_pos (by decide)]
  · obtain ⟨v, hv, rfl, hfv⟩ := zo_good_t hg
    obtain ⟨n1, n2, n3, n4, n5⟩ := hI.2.2.2.2.2.2.2.1 v hv
    obtain ⟨t2, t3⟩ := hR.1.2.2.2.2 v hv
    have hat : zf_TL_isAtWork x (nI v) (zx d x T U) = some (nI (decide (S 7 v < 3)).toNat, zx d x T U) := by
      rw [yatw hf hv (by rw [e0]; exact hg) (by omega), t2]
    have cv : (nI v).toNatClampNeg = v := nI_clamp (by omega)
    by_cases h3 : S 7 v = 3
    · apply none
      · unfold zo_propose; rw [cv, if_neg (fun h => h.2.2.1 h3)]
      · unfold zf_TL_propose zf_TL_propose_18
        rw [xo_c, zbs, hat, zbs, decide_eq_false (by omega)]
        dsimp only
        rw [if_pos (by decide)]
    · have hs : S 7 v < 3 := by omega
      by_cases hy : nI 1 ≤ b ∧ b ≤ nI 7
      · obtain ⟨y, hy7, rfl⟩ : ∃ w, w ≤ 7 ∧ b = nI w := zn_of (by decide) (Int32.le_trans (by decide) hy.1) hy.2
        have cy : (nI y).toNatClampNeg = y := nI_clamp (by omega)
        have hb6 : T (qA v (S 7 v)) 6 = S 11 v := by
          have := (hR.2.2.1 v (S 7 v) hv hs (Nat.le_refl _)).1
          unfold yRq at this
          rw [if_pos rfl] at this
          exact this
        have pre : zf_TL_propose x (nI v) (nI y) (zx d x T U) = if S 11 v = 0 then
            (zf_Agreement_takeProposal (x + qA v (S 7 v)) (nI y) (zx d x (u2 T 0 6 1) U)).bind fun (_, σ31) =>
              (zg_c σ31 (x + qA v (S 7 v)) 1).bind fun _ =>
              (zf_Agreement_stir (x + qA v (S 7 v)) σ31).bind fun (_, σ35) =>
              (zg_r σ35 x 0 2).bind fun b38 =>
              (za_ln σ35 b38 4 (nI v)).bind fun b39 =>
              (zg_i σ35 (x + qA v (S 7 v)) 1 10).bind fun v42 =>
              (zg_c σ35 x 0).bind fun _ =>
              (zf_TL_closeSlot x b39 v42 σ35).bind fun (_, σ45) =>
              some ((nI 1), σ45) else some (nI 0, zx d x T U) := by
          unfold zf_TL_propose zf_TL_propose_18
          rw [xo_c, zbs, hat, zbs, decide_eq_true hs]
          dsimp only
          rw [if_neg (by decide), yw, zbs, decide_eq_true hy]
          dsimp only
          rw [if_neg (by decide), xo_g2, zbs, xns_l _ _ _ _ hv, zbs, xn_g0 _ _ _ _ hv, zbs, zbs, xns_l _ _ _ _ hv, zbs, xn_g2 _ _ _ _ hv, zbs, t2, xas_l _ _ _ _ hv hs, zbs, xa_g6 _ _ _ _ hv hs, zbs, hb6, xo_p6, zbs, xa_c _ _ _ _ hv hs, zbs]
          by_cases h11 : S 11 v = 0
          · rw [if_pos ((zn_eq0 (by omega)).mpr h11), if_pos h11]
          · rw [if_neg (fun h => h11 ((zn_eq0 (by omega)).mp h)), if_neg h11]
        by_cases h11 : S 11 v = 0
        · have hz : zo_propose S (nI v) (nI y) = (nI 1, zo_stir (u2 S 1 0 1) v (zo_pq S v y)) := by
            unfold zo_propose; rw [cv, cy, if_pos ⟨hg, hy, h3, h11⟩]
          rw [hz, pre, if_pos h11]
          have hR1 := yR_begun hR
          have hI1 := zi_begun hI
          have e7 : u2 S 1 0 1 7 v = S 7 v := u2_k (by decide)
          have hzt : zt (u2 T 0 6 1) v (S 7 v) (zw_get S v) = u2 T 0 6 1 := by
            have := yR_zt (hR1.2.1 v (S 7 v) hv hs) (hR1.2.2.1 v (S 7 v) hv hs (by rw [e7]; exact Nat.le_refl _)) (by rw [e7]) hv
            rw [zw_get_begun] at this
            exact this
          have hq : (if zw_get S v 2 0 = 0 then zq_nr (yc (u2 T 0 6 1) v) (S 7 v) (u2 (zw_get S v) 2 3 y) else u2 (zw_get S v) 2 3 y) = zo_pq S v y := by
            rw [yR_c hR1.1 hv, zq_cand_begun]; rfl
          have etp := ytp (d := d) (x := x) (U := U) (yR_T hR1.1 hI1.2.2.2.1) hv hs (zi_B hI hv hs) (by show S 8 v ≤ 1999; omega) hy7
          rw [hzt, hq] at etp
          obtain ⟨T5, o, d', T', U', c1, c2, c3, c4, c5⟩ := yend (Q := zo_pq S v y) hI1 (zj_begun hJ) hR1 hv (by rw [e7]; exact hs) (zo_pq_B hI hv hs hy7) (zo_pq_8 hI hv hs)
          rw [e7] at c1 c2
          refine ⟨d', T', U', ?_, c4, c5⟩
          rw [etp, zbs]
          dsimp only
          rw [xa_c _ _ _ _ hv hs, zbs, c1, zbs]
          dsimp only
          rw [xo_g2, zbs, xns_l _ _ _ _ hv, zbs, xa_g10 _ _ _ _ hv hs, zbs, xo_c, zbs, c2, c3, zbs]
        · apply none
          · unfold zo_propose; rw [cv, cy, if_neg (fun h => h11 h.2.2.2)]
          · rw [pre, if_neg h11]
      · apply none
        · unfold zo_propose; rw [if_neg (fun h => hy h.2.1)]
        · unfold zf_TL_propose zf_TL_propose_18
          rw [xo_c, zbs, hat, zbs, decide_eq_true hs]
          dsimp only
          rw [if_neg (by decide), yw, zbs, decide_eq_false hy]
          dsimp only
          rw [if_pos (by decide)]
theorem y_timeout (hI : zi N S) (hJ : zj S) (hN : N ≤ 1900) (hR : yR d x T U S) (a : Int32) : yOK d x (zo_timeout S a) (zf_TL_timeout x a (zx d x T U)) := by
  have e0 := hR.1.1
  have hf : T 0 0 < 32 := by rw [e0]; exact hI.1
  have none : zo_timeout S a = (nI 0, S) → zf_TL_timeout x a (zx d x T U) = some (nI 0, zx d x T U) → yOK d x (zo_timeout S a) (zf_TL_timeout x a (zx d x T U)) := by
    intro h1 h2
    rw [h1, h2]
    exact ⟨d, T, U, rfl, hR, yF_r⟩
  cases hg : zo_good (S 0 0) a
  · apply none
    · unfold zo_timeout; rw [if_neg (by simp [hg])]
    · unfold zf_TL_timeout
      rw [xo_c, zbs, yatw0 hf (by rw [e0]; exact hg), zbs]
      dsimp only
      rw [if_pos (by decide)]
  · obtain ⟨v, hv, rfl, hfv⟩ := zo_good_t hg
    obtain ⟨n1, n2, n3, n4, n5⟩ := hI.2.2.2.2.2.2.2.1 v hv
    obtain ⟨t2, t3⟩ := hR.1.2.2.2.2 v hv
    have hat : zf_TL_isAtWork x (nI v) (zx d x T U) = some (nI (decide (S 7 v < 3)).toNat, zx d x T U) := by
      rw [yatw hf hv (by rw [e0]; exact hg) (by omega), t2]
    have cv : (nI v).toNatClampNeg = v := nI_clamp (by omega)
    by_cases h3 : S 7 v = 3
    · apply none
      · unfold zo_timeout; rw [cv, if_neg (fun h => h.2.1 h3)]
      · unfold zf_TL_timeout
        rw [xo_c, zbs, hat, zbs, decide_eq_false (by omega)]
        dsimp only
        rw [if_pos (by decide)]
    · have hs : S 7 v < 3 := by omega
      have hb7 : T (qA v (S 7 v)) 7 = S 8 v := by
        have := (hR.2.2.1 v (S 7 v) hv hs (Nat.le_refl _)).2.1 0 (by decide)
        unfold yRq at this
        rw [if_pos rfl] at this
        exact this
      have pre : zf_TL_timeout x (nI v) (zx d x T U) = if S 8 v = 0 then some (nI 0, zx d x T U) else
          (zf_Agreement_runOutOfTime (x + qA v (S 7 v)) (zx d x (u2 T 0 6 1) U)).bind fun (_, σ31) =>
            (zg_c σ31 (x + qA v (S 7 v)) 1).bind fun _ =>
            (zf_Agreement_stir (x + qA v (S 7 v)) σ31).bind fun (_, σ35) =>
            (zg_r σ35 x 0 2).bind fun b38 =>
            (za_ln σ35 b38 4 (nI v)).bind fun b39 =>
            (zg_i σ35 (x + qA v (S 7 v)) 1 10).bind fun v42 =>
            (zg_c σ35 x 0).bind fun _ =>
            (zf_TL_closeSlot x b39 v42 σ35).bind fun (_, σ45) =>
            some ((nI 1), σ45) := by
        unfold zf_TL_timeout
        rw [xo_c, zbs, hat, zbs, decide_eq_true hs]
        dsimp only
        rw [if_neg (by decide), xo_g2, zbs, xns_l _ _ _ _ hv, zbs, xn_g0 _ _ _ _ hv, zbs, zbs, xns_l _ _ _ _ hv, zbs, xn_g2 _ _ _ _ hv, zbs, t2, xas_l _ _ _ _ hv hs, zbs, xa_g7 _ _ _ _ hv hs, zbs, hb7, xo_p6, zbs, xa_c _ _ _ _ hv hs, zbs]
        by_cases h8 : S 8 v = 0
        · rw [if_pos ((zn_eq0 (by omega)).mpr h8), if_pos h8]
        · rw [if_neg (fun h => h8 ((zn_eq0 (by omega)).mp h)), if_neg h8]
      by_cases h8 : S 8 v = 0
      · apply none
        · unfold zo_timeout; rw [cv, if_neg (fun h => h.2.2 h8)]
        · rw [pre, if_pos h8]
      · have hz : zo_timeout S (nI v) = (nI 1, zo_stir (u2 S 1 0 1) v (zo_tq S v)) := by
          unfold zo_timeout; rw [cv, if_pos ⟨hg, h3, h8⟩]
        rw [hz, pre, if_neg h8]
        have hR1 := yR_begun hR
        have hI1 := zi_begun hI
        have e7 : u2 S 1 0 1 7 v = S 7 v := u2_k (by decide)
        have hzt : zt (u2 T 0 6 1) v (S 7 v) (zw_get S v) = u2 T 0 6 1 := by
          have := yR_zt (hR1.2.1 v (S 7 v) hv hs) (hR1.2.2.1 v (S 7 v) hv hs (by rw [e7]; exact Nat.le_refl _)) (by rw [e7]) hv
          rw [zw_get_begun] at this
          exact this
        have hq : (if zq_comp (zw_get S v) = 0 then zq_nr (yc (u2 T 0 6 1) v) (S 7 v) (zw_get S v) else if zw_get S v 2 2 < 4 then zq_vp (u2 (zw_get S v) 2 2 (zw_get S v 2 2 + 1)) else zw_get S v) = zo_tq S v := by
          rw [yR_c hR1.1 hv, zq_cand_begun]; rfl
        have etp := yrt (d := d) (x := x) (U := U) (yR_T hR1.1 hI1.2.2.2.1) hv hs (zi_B hI hv hs) (by show S 8 v ≤ 1999; omega)
        rw [hzt, hq] at etp
        obtain ⟨T5, o, d', T', U', c1, c2, c3, c4, c5⟩ := yend (Q := zo_tq S v) hI1 (zj_begun hJ) hR1 hv (by rw [e7]; exact hs) (zo_tq_B hI hv hs) (zo_tq_8 hI hv hs)
        rw [e7] at c1 c2
        refine ⟨d', T', U', ?_, c4, c5⟩
        rw [etp, zbs]
        dsimp only
        rw [xa_c _ _ _ _ hv hs, zbs, c1, zbs]
        dsimp only
        rw [xo_g2, zbs, xns_l _ _ _ _ hv, zbs, xa_g10 _ _ _ _ hv hs, zbs, xo_c, zbs, c2, c3, zbs]
end YK
