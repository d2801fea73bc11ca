/-! The state's bounds are kept by every call. -/
section ZK
variable {S : Nat → Nat → Nat} {v N j : Nat} {Q : zq_Q} {P : Nat → Nat → Bool}
theorem zqk_put {k h b : Nat} : zq_put Q k h b 2 j = Q 2 j := u2_k (by decide)
theorem zqk_loop {f : Nat → zq_Q → Bool × zq_Q} (hf : ∀ b Q, (f b Q).2 2 j = Q 2 j) : ∀ (n b : Nat) (m : Bool) (Q : zq_Q), (zq_loop f n b m Q).2 2 j = Q 2 j := by
  intro n
  induction n with
  | zero => intro b m Q; rfl
  | succ n ih => intro b m Q; rw [zq_loop_s, ih, hf]
theorem zqk_acc {k b : Nat} {Q : zq_Q} : (zq_acc P v k b Q).2 2 j = Q 2 j := by
  unfold zq_acc; split
  · exact zqk_put (Q := Q) (k := k) (h := 1) (b := b)
  · rfl
theorem zqk_con {k b : Nat} {Q : zq_Q} : (zq_con P v k b Q).2 2 j = Q 2 j := by
  unfold zq_con; split
  · exact zqk_put (Q := Q) (k := k) (h := 2) (b := b)
  · rfl
theorem zqk_A : (zq_A v Q).2 2 j = Q 2 j := by
  unfold zq_A; split
  · refine zqk_loop (fun b Q => ?_) 7 1 false Q
    unfold zq_A1; split
    · exact zqk_put (Q := Q) (k := 0) (h := 0) (b := b)
    · rfl
  · rfl
theorem zqk_vp : zq_vp Q 2 j = Q 2 j := by unfold zq_vp; exact zqk_put (Q := Q) (k := 1) (h := 0) (b := 7 * (Q 2 2 - 1) + zq_toP Q - 1)
theorem zqk_D (hj : j ≠ 2) : (zq_D Q).2 2 j = Q 2 j := by
  unfold zq_D; split
  · exact (zqk_vp (Q := u2 Q 2 2 1)).trans (u2_i hj)
  · rfl
theorem zqk_G : (zq_G Q).2 2 j = Q 2 j := by
  unfold zq_G
  refine zqk_loop (fun b Q => ?_) 28 0 false Q
  unfold zq_G1; split
  · exact zqk_put (Q := Q) (k := 2) (h := 0) (b := b)
  · rfl
theorem zqk_pre (hj : j ≠ 2) : (zq_pre P v Q).2 2 j = Q 2 j := by
  unfold zq_pre zq_p
  rw [zqk_G, zqk_loop (fun b Q => zqk_con), zqk_loop (fun b Q => zqk_acc), zqk_D hj, zqk_loop (fun b Q => zqk_con), zqk_loop (fun b Q => zqk_acc), zqk_A]
theorem zqk_H : ∀ (n b : Nat) (m : Bool) (Q : zq_Q), (zq_H P v n b m Q).2.2 2 j = Q 2 j := by
  intro n
  induction n with
  | zero => intro b m Q; rfl
  | succ n ih =>
    intro b m Q
    rw [zq_H_s]
    split
    · exact (zqk_put (Q := (zq_acc P v 2 b Q).2) (k := 2) (h := 2) (b := b)).trans zqk_acc
    · rw [ih, zqk_acc]
theorem zq_stir_k (hj : j ≠ 2) : ∀ (f : Nat) (Q : zq_Q), (zq_stir P v f Q).2 2 j = Q 2 j := by
  intro f
  induction f with
  | zero => intro Q; rfl
  | succ f ih =>
    intro Q
    have he : (zq_end P v Q).2.2 2 j = Q 2 j := (zqk_H 28 0 false _).trans (zqk_pre hj)
    rw [zq_stir_s]
    generalize zq_end P v Q = E at he ⊢
    obtain ⟨o, c, Q2⟩ := E
    cases o with
    | some b => exact he
    | none =>
      dsimp only
      split
      · rw [ih]; exact he
      · exact he
theorem zq_stir_B : ∀ (f : Nat) (Q : zq_Q), zq_B Q → zq_B (zq_stir P v f Q).2 := by
  intro f
  induction f with
  | zero => intro Q h; exact h
  | succ f ih =>
    intro Q h
    have he : zq_B (zq_end P v Q).2.2 := zq_end_B h
    rw [zq_stir_s]
    generalize zq_end P v Q = E at he ⊢
    obtain ⟨o, c, Q2⟩ := E
    cases o with
    | some b => exact he
    | none =>
      dsimp only
      split
      · exact ih _ he
      · exact he
theorem zq_stir_8 : ∀ (f : Nat) (Q : zq_Q), Q 0 8 = 0 → (zq_stir P v f Q).1 = none → (zq_stir P v f Q).2 0 8 = 0 := by
  intro f
  induction f with
  | zero => intro Q h _; exact h
  | succ f ih =>
    intro Q h hn
    have he : (zq_end P v Q).1 = none → (zq_end P v Q).2.2 0 8 = 0 := fun hq => (zq_H_8 28 0 false (zq_pre P v Q).2 hq).trans (zq_pre_8.trans h)
    rw [zq_stir_s] at hn ⊢
    generalize zq_end P v Q = E at he hn ⊢
    obtain ⟨o, c, Q2⟩ := E
    cases o with
    | some b => cases hn
    | none =>
      dsimp only at hn ⊢
      split
      · rename_i hc
        rw [if_pos hc] at hn
        exact ih _ (he rfl) hn
      · exact he rfl
theorem zi_mono {N' : Nat} (h : zi N S) (hN : N ≤ N') : zi N' S := by
  obtain ⟨h1, h2, h3, h4, h5, h6, h7, h8, h9⟩ := h
  refine ⟨h1, h2, h3, h4, h5, h6, h7, fun v hv => ?_, h9⟩
  obtain ⟨a, b, c⟩ := h8 v hv
  exact ⟨a, by omega, c⟩
theorem zl_B_e {L L' : zq_Q} (h : zl_B L) (h0 : ∀ i, i < 8 → L' 0 i = L 0 i) (h5 : L' 5 0 = L 5 0) (hj : ∀ j i, 1 ≤ j → j ≤ 4 → i < 8 → L' j i = L j i) : zl_B L' := by
  obtain ⟨a, b, c, e⟩ := h
  refine ⟨?_, ?_, by rw [h5]; exact c, fun k hk => ?_⟩
  · rw [h0 0 (by decide), h0 2 (by decide), h0 4 (by decide), h0 6 (by decide)]; exact a
  · rw [h0 1 (by decide), h0 3 (by decide), h0 5 (by decide), h0 7 (by decide)]; exact b
  · rw [h5] at hk
    rw [hj 1 k (by decide) (by decide) (by omega), hj 2 k (by decide) (by decide) (by omega), hj 3 k (by decide) (by decide) (by omega), hj 4 k (by decide) (by decide) (by omega)]
    exact e k hk
theorem zs_P_r {S' : Nat → Nat → Nat} (h : ∀ k, 2 ≤ k → k ≤ 5 → S' k = S k) : zs_P S' = zs_P S := by
  funext a b; unfold zs_P
  rw [h 2 (by decide) (by decide), h 3 (by decide) (by decide), h 4 (by decide) (by decide), h 5 (by decide) (by decide)]
theorem zs_Tb_r {S' : Nat → Nat → Nat} (h : ∀ k, 2 ≤ k → k ≤ 5 → S' k = S k) (hT : zs_Tb S) : zs_Tb S' := by
  intro w hw
  rw [h 2 (by decide) (by decide), h 3 (by decide) (by decide), h 4 (by decide) (by decide), h 5 (by decide) (by decide)]
  exact hT w hw
theorem zi_go (hI : zi N S) (hv : v < 5) (hs : S 7 v < 3) (hB : zq_B Q) (hr : Q 2 0 ≤ N) (h8 : Q 0 8 = 0) : zi N (zw S v Q) := by
  obtain ⟨h1, h2, h3, h4, h5, h6, h7, h8', h9, h10, h11, h12, h13, h14, h15, h16⟩ := hI
  have r : ∀ k, k < 8 ∨ 13 < k → zw S v Q k = S k := fun k hk => zw_row hk
  refine ⟨by rw [r 0 (by omega)]; exact h1, by rw [r 1 (by omega)]; exact h2, by rw [r 16 (by omega)]; exact h3, zs_Tb_r (fun k a b => r k (by omega)) h4, fun p hp => ?_, fun i hi => ?_, fun i hi => ?_, fun y hy => ?_, ?_, by rw [r 19 (by omega)]; exact h10, zi_tx_w h11, fun y hy => by rw [zv_get_w]; exact h12 y hy, by rw [r 14 (by omega)]; exact h13, fun y hy i a b => ?_, fun y hy hf => ?_, fun y hy h => ?_⟩
  · rw [r 6 (by omega), zs_P_w]; exact h5 p hp
  · by_cases hc : 27 * v + 9 * S 7 v ≤ i ∧ i < 27 * v + 9 * S 7 v + 9
    · obtain ⟨j, rfl⟩ : ∃ j, i = 27 * v + 9 * S 7 v + j := ⟨i - (27 * v + 9 * S 7 v), by omega⟩
      rw [zw_12 (by omega)]; exact hB.1 _ (by omega)
    · rw [zw_o12 (by omega)]; exact h6 i hi
  · by_cases hc : 30 * v ≤ i ∧ i < 30 * v + 30
    · obtain ⟨j, rfl⟩ : ∃ j, i = 30 * v + j := ⟨i - 30 * v, by omega⟩
      rw [zw_13 (by omega)]; exact hB.2.1 _ (by omega)
    · rw [zw_o13 (by omega)]; exact h7 i hi
  · rw [r 7 (by omega)]
    by_cases hyv : y = v
    · subst hyv
      have e0 := zw_2 (S := S) (v := y) (Q := Q) (k := 0) (by decide)
      have e1 := zw_2 (S := S) (v := y) (Q := Q) (k := 1) (by decide)
      have e2 := zw_2 (S := S) (v := y) (Q := Q) (k := 2) (by decide)
      have e3 := zw_2 (S := S) (v := y) (Q := Q) (k := 3) (by decide)
      rw [show zw S y Q 8 y = Q 2 0 from e0, show zw S y Q 9 y = Q 2 1 from e1, show zw S y Q 10 y = Q 2 2 from e2, show zw S y Q 11 y = Q 2 3 from e3]
      exact ⟨by omega, hr, hB.2.2.1, hB.2.2.2.1, hB.2.2.2.2⟩
    · rw [zw_o2 (by decide) hyv, zw_o2 (by decide) hyv, zw_o2 (by decide) hyv, zw_o2 (by decide) hyv]; exact h8' y hy
  · rw [r 16 (by omega), r 17 (by omega), r 18 (by omega)]; exact h9
  · rw [r 7 (by omega)] at a
    by_cases hyv : y = v
    · subst hyv; rw [zw_o12 (by omega)]; exact h14 y hy i a b
    · rw [zw_o12 (by omega)]; exact h14 y hy i a b
  · rw [r 0 (by omega)] at hf
    rw [r 7 (by omega)]; exact h15 y hy hf
  · rw [r 7 (by omega)] at h ⊢
    by_cases hyv : y = v
    · subst hyv; rw [zw_12 (by decide)]; exact h8
    · rw [zw_o12 (by omega)]; exact h16 y hy h
theorem zi_xt (hI : zi N S) (hv : v < 5) (hs : S 7 v < 3) (hB : zq_B Q) (hf : (S 0 0).testBit v = false) {w : Nat} (hw : w < 8) : zi N (zs_ext (zw S v Q) v w) := by
  obtain ⟨h1, h2, h3, h4, h5, h6, h7, h8', h9, h10, h11, h12, h13, h14, h15, h16⟩ := hI
  have r : ∀ k, k < 8 ∨ 13 < k → zw S v Q k = S k := fun k hk => zw_row hk
  have e7 : zw S v Q 7 v = S 7 v := by rw [r 7 (by omega)]
  have x : ∀ k, k < 7 ∨ (15 < k ∧ k < 26) → zs_ext (zw S v Q) v w k = S k := fun k hk => by rw [ze_r (by omega), r k (by omega)]
  have x12 : ∀ i, zs_ext (zw S v Q) v w 12 i = zw S v Q 12 i := fun i => ze_row (by omega)
  have x7 : zs_ext (zw S v Q) v w 7 v = S 7 v + 1 := by rw [ze_7, e7]
  have x7o : ∀ y, y ≠ v → zs_ext (zw S v Q) v w 7 y = S 7 y := fun y hy => by rw [ze_7o hy, r 7 (by omega)]
  have l12 : ∀ y, y < 5 → zl_B (zv_get (zw S v Q) y) := fun y hy => by rw [zv_get_w]; exact h12 y hy
  refine ⟨by rw [x 0 (by omega)]; exact h1, by rw [x 1 (by omega)]; exact h2, by rw [x 16 (by omega)]; exact h3, zs_Tb_r (fun k a b => x k (by omega)) h4, fun p hp => ?_, fun i hi => ?_, fun i hi => ?_, fun y hy => ?_, ?_, by rw [x 19 (by omega)]; exact h10, zi_tx_r (fun k a b => x k (by omega)) h11, fun y hy => ?_, fun i hi => ?_, fun y hy i a b => ?_, fun y hy hf' => ?_, fun y hy h => ?_⟩
  · rw [x 6 (by omega), zs_P_r (fun k a b => x k (by omega))]; exact h5 p hp
  · rw [x12]
    by_cases hc : 27 * v + 9 * S 7 v ≤ i ∧ i < 27 * v + 9 * S 7 v + 9
    · obtain ⟨j, rfl⟩ : ∃ j, i = 27 * v + 9 * S 7 v + j := ⟨i - (27 * v + 9 * S 7 v), by omega⟩
      rw [zw_12 (by omega)]; exact hB.1 _ (by omega)
    · rw [zw_o12 (by omega)]; exact h6 i hi
  · by_cases hc : 30 * v ≤ i ∧ i < 30 * v + 30
    · rw [ze_13 hc.1 hc.2]; decide
    · rw [ze_13o (by omega), zw_o13 (by omega)]; exact h7 i hi
  · by_cases hyv : y = v
    · subst hyv
      rw [x7, ze_8 (by decide) (by decide), ze_8 (by decide) (by decide), ze_8 (by decide) (by decide), ze_8 (by decide) (by decide)]
      omega
    · rw [x7o y hyv, ze_8o (by decide) (by decide) hyv, ze_8o (by decide) (by decide) hyv, ze_8o (by decide) (by decide) hyv, ze_8o (by decide) (by decide) hyv, zw_o2 (by decide) hyv, zw_o2 (by decide) hyv, zw_o2 (by decide) hyv, zw_o2 (by decide) hyv]; exact h8' y hy
  · rw [x 16 (by omega), x 17 (by omega), x 18 (by omega)]; exact h9
  · by_cases hyv : y = v
    · subst hyv
      refine zl_B_e (L := zs_led (zw S y Q) y w) (zl_run_B (zi_tx_w h11) (by rw [e7]; exact hs) (x := w) 3 (by decide) _ (l12 y hy)) (fun i hi => ?_) ?_ (fun j i a b hi => ?_)
      · exact ze_get (fun _ => hi) (by decide) (fun h => by cases h) (fun h => by omega)
      · exact ze_get (fun h => by cases h) (by decide) (fun _ => rfl) (fun _ h => by omega)
      · exact ze_get (fun h => by omega) (by omega) (fun h => by omega) (fun _ _ => by omega)
    · refine zl_B_e (l12 y hy) (fun i hi => ?_) ?_ (fun j i a b hi => ?_)
      · exact ze_geto hyv (fun _ => hi) (by decide) (fun h => by omega)
      · exact ze_geto hyv (fun h => by cases h) (by decide) (fun _ h => by omega)
      · exact ze_geto hyv (fun h => by omega) (by omega) (fun _ _ => by omega)
  · by_cases hi' : i = 3 * v + zw S v Q 7 v
    · rw [hi', ze_14]; exact hw
    · rw [ze_14o hi', r 14 (by omega)]; exact h13 i hi
  · rw [x12]
    by_cases hyv : y = v
    · subst hyv
      rw [x7] at a
      rw [zw_o12 (by omega)]; exact h14 y hy i (by omega) b
    · rw [x7o y hyv] at a
      rw [zw_o12 (by omega)]; exact h14 y hy i a b
  · rw [x 0 (by omega)] at hf'
    have hyv : y ≠ v := fun h => by rw [h, hf] at hf'; cases hf'
    rw [x7o y hyv]; exact h15 y hy hf'
  · rw [x12]
    by_cases hyv : y = v
    · subst hyv
      rw [x7] at h ⊢
      rw [zw_o12 (by omega)]; exact h14 y hy _ (by omega) (by omega)
    · rw [x7o y hyv] at h ⊢
      rw [zw_o12 (by omega)]; exact h16 y hy h
theorem zj_go (hJ : zj S) : zj (zw S v Q) := by
  intro y s hy hs h
  rw [zw_row (by omega)] at h ⊢
  exact hJ y s hy hs h
theorem zj_xt (hJ : zj S) (hs : S 7 v < 3) {w : Nat} : zj (zs_ext S v w) := by
  intro y s hy hs' h
  by_cases hyv : y = v
  · subst hyv
    rw [ze_7] at h
    rw [ze_14o (by omega)]; exact hJ y s hy hs' (by omega)
  · rw [ze_7o hyv] at h
    rw [ze_14o (by omega)]; exact hJ y s hy hs' h
theorem zi_stir (hI : zi N S) (hJ : zj S) (hv : v < 5) (hs : S 7 v < 3) (hf : (S 0 0).testBit v = false) (hB : zq_B Q) (hr : Q 2 0 ≤ N) (h8 : Q 0 8 = 0) : zi N (zo_stir S v Q) ∧ zj (zo_stir S v Q) := by
  have hB' := zq_stir_B (P := zs_P S) (v := v) 1000 Q hB
  have hr' := zq_stir_k (P := zs_P S) (v := v) (j := 0) (by decide) 1000 Q
  have h8' := zq_stir_8 (P := zs_P S) (v := v) 1000 Q h8
  unfold zo_stir
  generalize zq_stir (zs_P S) v 1000 Q = R at hB' hr' h8' ⊢
  obtain ⟨o, Q2⟩ := R
  cases o with
  | none => exact ⟨zi_go hI hv hs hB' (by rw [hr']; exact hr) (h8' rfl), zj_go hJ⟩
  | some b =>
    have hw := zq_wo_b b
    exact ⟨zi_xt hI hv hs hB' hf (by omega), zj_xt (zj_go hJ) (by rw [zw_row (by omega)]; exact hs)⟩
theorem zi_propose (hI : zi N S) (hJ : zj S) (a b : Int32) : zi (N + 1) (zo_propose S a b).2 ∧ zj (zo_propose S a b).2 := by
  unfold zo_propose
  split
  · rename_i h
    obtain ⟨hg, hy, h3, h11⟩ := h
    obtain ⟨v, hv, rfl, hf⟩ := zo_good_t hg
    obtain ⟨y, hy7, rfl⟩ : ∃ w, w ≤ 7 ∧ b = nI w := zn_of (by decide) (Int32.le_trans (by decide) hy.1) hy.2
    rw [nI_clamp (show v < 2 ^ 31 by omega)] at h3 h11 ⊢
    rw [nI_clamp (show y < 2 ^ 31 by omega)]
    obtain ⟨n1, n2, -⟩ := hI.2.2.2.2.2.2.2.1 v hv
    have hs : S 7 v < 3 := by omega
    refine zi_stir (zi_mono (zi_begun hI) (Nat.le_succ N)) (zj_begun hJ) hv (by rw [u2_k (by decide)]; exact hs) (by rw [u2_k (by decide)]; exact hf) (zo_pq_B hI hv hs hy7) ?_ (zo_pq_8 hI hv hs)
    unfold zo_pq zq_nr
    have e8 : zw_get S v 2 0 = S 8 v := rfl
    split
    · rw [u2_i (by decide), u2_s, u2_i (by decide), e8]; omega
    · rw [u2_i (by decide), e8]; omega
  · exact ⟨zi_mono hI (Nat.le_succ N), hJ⟩
theorem zi_timeout (hI : zi N S) (hJ : zj S) (a : Int32) : zi (N + 1) (zo_timeout S a).2 ∧ zj (zo_timeout S a).2 := by
  unfold zo_timeout
  split
  · rename_i h
    obtain ⟨hg, h3, h8⟩ := h
    obtain ⟨v, hv, rfl, hf⟩ := zo_good_t hg
    rw [nI_clamp (show v < 2 ^ 31 by omega)] at h3 h8 ⊢
    obtain ⟨n1, n2, -⟩ := hI.2.2.2.2.2.2.2.1 v hv
    have hs : S 7 v < 3 := by omega
    refine zi_stir (zi_mono (zi_begun hI) (Nat.le_succ N)) (zj_begun hJ) hv (by rw [u2_k (by decide)]; exact hs) (by rw [u2_k (by decide)]; exact hf) (zo_tq_B hI hv hs) ?_ (zo_tq_8 hI hv hs)
    unfold zo_tq zq_nr
    have e8 : zw_get S v 2 0 = S 8 v := rfl
    split
    · rw [u2_i (by decide), u2_s, e8]; omega
    · split
      · rw [zqk_vp, u2_i (by decide), e8]; omega
      · rw [e8]; omega
  · exact ⟨zi_mono hI (Nat.le_succ N), hJ⟩
theorem zi_deliver (hI : zi N S) (hJ : zj S) (k a : Int32) : zi (N + 1) (zo_deliver S k a).2 ∧ zj (zo_deliver S k a).2 := by
  unfold zo_deliver
  split
  · rename_i h
    obtain ⟨hkk, hg, h17, h18⟩ := h
    obtain ⟨v, hv, rfl, hf⟩ := zo_good_t hg
    obtain ⟨k, hk, rfl⟩ := zo_kin_t hkk
    have h120 := hI.2.2.1
    rw [nI_clamp (show v < 2 ^ 31 by omega)] at h17 h18 ⊢
    rw [nI_clamp (show k < 2 ^ 31 by omega)] at h17 h18 ⊢
    obtain ⟨n1, n2, -⟩ := hI.2.2.2.2.2.2.2.1 v hv
    have m := (hI.2.2.2.2.2.2.2.2.1 k hk).2
    have hs : S 7 v < 3 := by omega
    refine zi_stir (zi_mono hI (Nat.le_succ N)) hJ hv hs hf (zo_dq_B hI hv hs (by omega)) ?_ (zo_dq_8 hI hv hs)
    unfold zo_dq zo_learn
    have e8 : zw_get S v 2 0 = S 8 v := rfl
    rw [if_neg (by omega), e8]; omega
  · exact ⟨zi_mono hI (Nat.le_succ N), hJ⟩
theorem zi_mail (hI : zi N S) (hJ : zj S) {s : Nat} {F : Nat → Nat} (hv : v < 5) (hs : s < 3) (hm : S 16 0 ≠ 120) (hF : ∀ i, i < 6 → F i < 2 ^ 28) : zi (N + 1) (zo_mail S v s F) ∧ zj (zo_mail S v s F) := by
  obtain ⟨h1, h2, h3, h4, h5, h6, h7, h8, h9, h10, h11, h12, h13, h14, h15, h16⟩ := zi_mono hI (Nat.le_succ N)
  have r : ∀ k, k ≠ 19 → k ≠ 17 → k ≠ 18 → k ≠ 16 → k ≠ 1 → zo_mail S v s F k = S k := by
    intro k a b c e g
    funext i
    unfold zo_mail
    rw [if_neg (by omega), if_neg (by omega), if_neg (by omega), if_neg (by omega), if_neg (by omega)]
  have z16 : zo_mail S v s F 16 0 = S 16 0 + 1 := by
    unfold zo_mail
    rw [if_neg (by omega), if_neg (by omega), if_neg (by omega), if_pos ⟨rfl, rfl⟩]
  have z1 : zo_mail S v s F 1 0 = 1 := by
    unfold zo_mail
    rw [if_neg (by omega), if_neg (by omega), if_neg (by omega), if_neg (by omega), if_pos ⟨rfl, rfl⟩]
  have d := fun k (hk : k ≤ 15 ∧ k ≠ 1 ∨ 19 < k) => r k (by omega) (by omega) (by omega) (by omega) (by omega)
  refine ⟨⟨by rw [d 0 (by omega)]; exact h1, by rw [z1]; decide, by rw [z16]; omega, zs_Tb_r (fun k a b => d k (by omega)) h4, fun p hp => ?_, by rw [d 12 (by omega)]; exact h6, by rw [d 13 (by omega)]; exact h7, ?_, fun k hk => ?_, fun i hi => ?_, zi_tx_r (fun k a b => d k (by omega)) h11, fun y hy => by rw [zv_get_r (S := S) (fun k hk => d k (by omega))]; exact h12 y hy, by rw [d 14 (by omega)]; exact h13, ?_, ?_, ?_⟩, ?_⟩
  · rw [d 6 (by omega), zs_P_r (fun k a b => d k (by omega))]; exact h5 p hp
  · rw [d 7 (by omega), d 8 (by omega), d 9 (by omega), d 10 (by omega), d 11 (by omega)]; exact h8
  · rw [z16] at hk
    by_cases hkn : k = S 16 0
    · have z17 : zo_mail S v s F 17 k = v := by unfold zo_mail; rw [if_neg (by omega), if_pos ⟨rfl, hkn⟩]
      have z18 : zo_mail S v s F 18 k = s := by unfold zo_mail; rw [if_neg (by omega), if_neg (by omega), if_pos ⟨rfl, hkn⟩]
      rw [z17, z18]; exact ⟨hv, hs⟩
    · have z17 : zo_mail S v s F 17 k = S 17 k := by unfold zo_mail; rw [if_neg (by omega), if_neg (by omega), if_neg (by omega), if_neg (by omega), if_neg (by omega)]
      have z18 : zo_mail S v s F 18 k = S 18 k := by unfold zo_mail; rw [if_neg (by omega), if_neg (by omega), if_neg (by omega), if_neg (by omega), if_neg (by omega)]
      rw [z17, z18]; exact h9 k (by omega)
  · unfold zo_mail
    by_cases hc : 19 = 19 ∧ 6 * S 16 0 ≤ i ∧ i < 6 * S 16 0 + 6
    · rw [if_pos hc]; exact hF _ (by omega)
    · rw [if_neg hc, if_neg (by omega), if_neg (by omega), if_neg (by omega), if_neg (by omega)]; exact h10 i hi
  · rw [d 7 (by omega), d 12 (by omega)]; exact h14
  · rw [d 7 (by omega), d 0 (by omega)]; exact h15
  · rw [d 7 (by omega), d 12 (by omega)]; exact h16
  · intro y s' hy hs' h
    rw [d 7 (by omega)] at h
    rw [d 14 (by omega)]; exact hJ y s' hy hs' h
theorem zi_post (hI : zi N S) (hJ : zj S) (a y : Int32) : zi (N + 1) (zo_post S a y).2 ∧ zj (zo_post S a y).2 := by
  unfold zo_post
  split
  · rename_i h
    obtain ⟨hg, hk, h7, h16⟩ := h
    obtain ⟨v, hv, rfl, hf⟩ := zo_good_t hg
    obtain ⟨s, hs, rfl⟩ := zo_kin_t hk
    rw [nI_clamp (show v < 2 ^ 31 by omega), nI_clamp (show s < 2 ^ 31 by omega)]
    refine zi_mail hI hJ hv hs h16 (fun i hi => ?_)
    have h12 := hI.2.2.2.2.2.1
    unfold zo_pf
    split
    · exact Nat.or_lt_two_pow (h12 _ (by omega)) (h12 _ (by omega))
    · exact h12 _ (by omega)
  · exact ⟨zi_mono hI (Nat.le_succ N), hJ⟩
theorem zi_forge (hI : zi N S) (hJ : zj S) (a y p q r : Int32) : zi (N + 1) (zo_forge S a y p q r).2 ∧ zj (zo_forge S a y p q r).2 := by
  unfold zo_forge
  split
  · rename_i h
    obtain ⟨ha, hg, hk, h16⟩ := h
    obtain ⟨v, hv, rfl⟩ := zo_kin_t ha
    obtain ⟨s, hs, rfl⟩ := zo_kin_t hk
    rw [nI_clamp (show v < 2 ^ 31 by omega), nI_clamp (show s < 2 ^ 31 by omega)]
    refine zi_mail hI hJ hv hs h16 (fun i hi => ?_)
    have m : ∀ a b, b < 2 ^ 28 → a &&& b < 2 ^ 28 := fun a b hb => Nat.lt_of_le_of_lt Nat.and_le_right hb
    unfold zo_ff
    split
    · exact m _ _ (by decide)
    · split
      · exact m _ _ (by decide)
      · exact m _ _ (by decide)
  · exact ⟨zi_mono hI (Nat.le_succ N), hJ⟩
theorem zi_trust (hI : zi N S) (hJ : zj S) (a t me inn gr : Int32) : zi (N + 1) (zo_trust S a t me inn gr).2 ∧ zj (zo_trust S a t me inn gr).2 := by
  unfold zo_trust
  split
  · rename_i h
    simp only [Bool.and_eq_true, beq_iff_eq] at h
    obtain ⟨⟨⟨⟨⟨q1, q2⟩, q3⟩, q4⟩, q5⟩, q6⟩ := h
    obtain ⟨v, hv, rfl⟩ := zo_kin_t q1
    obtain ⟨t, ht1, ht2, rfl⟩ := zo_r_t (by decide) q2 (by decide)
    obtain ⟨me, hm, rfl⟩ := zo_kin_t q3
    obtain ⟨gr, hg, rfl⟩ := zo_kin_t q4
    obtain ⟨inn, hi, rfl⟩ := zo_kin_t q5
    rw [nI_clamp (show v < 2 ^ 31 by omega), nI_clamp (show t < 2 ^ 31 by omega), nI_clamp (show me < 2 ^ 31 by omega), nI_clamp (show gr < 2 ^ 31 by omega), nI_clamp (show inn < 2 ^ 31 by omega)]
    obtain ⟨h1, h2, h3, h4, h5, h6, h7, h8, h9, h10, h11, h12, h13, h14, h15, h16⟩ := zi_mono hI (Nat.le_succ N)
    dsimp only
    have hW : zs_Tb (u2 (u2 (u2 (u2 S 2 v t) 3 v me) 4 v inn) 5 v gr) := by
      intro w hw
      have hT := h4 w hw
      by_cases hwv : w = v
      · subst hwv
        simp only [u2_s, u2_k (show (2 : Nat) ≠ 5 by decide), u2_k (show (2 : Nat) ≠ 4 by decide), u2_k (show (2 : Nat) ≠ 3 by decide), u2_k (show (3 : Nat) ≠ 5 by decide), u2_k (show (3 : Nat) ≠ 4 by decide), u2_k (show (4 : Nat) ≠ 5 by decide)]
        omega
      · simp only [u2_i hwv]
        exact hT
    have rW : ∀ k, k < 2 ∨ 6 ≤ k → u2 (u2 (u2 (u2 S 2 v t) 3 v me) 4 v inn) 5 v gr k = S k := fun k hk => by rw [u2_row (by omega), u2_row (by omega), u2_row (by omega), u2_row (by omega)]
    generalize u2 (u2 (u2 (u2 S 2 v t) 3 v me) 4 v inn) 5 v gr = W at hW rW ⊢
    have e : ∀ k, k ≠ 6 → zs_tab W 32 k = W k := by
      intro k hk
      funext b
      unfold zs_tab
      rw [if_neg (by omega)]
    have r : ∀ k, k < 2 ∨ 6 < k → zs_tab W 32 k = S k := fun k hk => by rw [e k (by omega), rW k (by omega)]
    refine ⟨⟨by rw [r 0 (by omega)]; exact h1, by rw [r 1 (by omega)]; exact h2, by rw [r 16 (by omega)]; exact h3, zs_Tb_r (fun k a b => e k (by omega)) hW, fun p hp => ?_, by rw [r 12 (by omega)]; exact h6, by rw [r 13 (by omega)]; exact h7, ?_, ?_, by rw [r 19 (by omega)]; exact h10, zi_tx_r (fun k a b => r k (by omega)) h11, fun y hy => by rw [zv_get_r (S := S) (fun k hk => r k (by omega))]; exact h12 y hy, by rw [r 14 (by omega)]; exact h13, ?_, ?_, ?_⟩, ?_⟩
    · rw [zs_P_r (S := W) (fun k a b => e k (by omega))]
      unfold zs_tab
      rw [if_pos ⟨rfl, hp⟩]
    · rw [r 7 (by omega), r 8 (by omega), r 9 (by omega), r 10 (by omega), r 11 (by omega)]; exact h8
    · rw [r 16 (by omega), r 17 (by omega), r 18 (by omega)]; exact h9
    · rw [r 7 (by omega), r 12 (by omega)]; exact h14
    · rw [r 7 (by omega), r 0 (by omega)]; exact h15
    · rw [r 7 (by omega), r 12 (by omega)]; exact h16
    · intro y s' hy hs' h
      rw [r 7 (by omega)] at h
      rw [r 14 (by omega)]; exact hJ y s' hy hs' h
  · exact ⟨zi_mono hI (Nat.le_succ N), hJ⟩
theorem zi_submit (hI : zi N S) (hJ : zj S) (s j kd fr wh ot am : Int32) : zi (N + 1) (zo_submit S s j kd fr wh ot am).2 ∧ zj (zo_submit S s j kd fr wh ot am).2 := by
  unfold zo_submit
  split
  · rename_i h
    simp only [Bool.and_eq_true, beq_iff_eq] at h
    obtain ⟨⟨⟨⟨⟨⟨⟨⟨q1, q2⟩, q3⟩, q4⟩, q5⟩, q6⟩, q7⟩, q8⟩, q9⟩ := h
    obtain ⟨s, hs, rfl⟩ := zo_kin_t q1
    obtain ⟨j, hj, rfl⟩ := zo_kin_t q2
    obtain ⟨kd, hk, rfl⟩ := zo_kin_t q3
    obtain ⟨fr, hf, rfl⟩ := zo_kin_t q4
    obtain ⟨wh, hw, rfl⟩ := zo_kin_t q5
    obtain ⟨am, ha1, ha2, rfl⟩ := zo_r_t (by decide) q6 (by decide)
    have cs : (nI s).toNatClampNeg = s := nI_clamp (by omega)
    have cj : (nI j).toNatClampNeg = j := nI_clamp (by omega)
    have hp : zo_place (nI s) (nI j) = 3 * s + j := by unfold zo_place; rw [cs, cj]
    have hot : ∃ on, ot = nI on ∧ on < 2 ^ 31 ∧ (kd = 1 → 1 ≤ on ∧ on ≤ 9) ∧ (kd ≠ 1 → on < 4) := by
      unfold zo_fits at q7
      by_cases hk0 : kd = 0
      · rw [if_pos (by rw [hk0])] at q7
        obtain ⟨o, ho, rfl⟩ := zo_kin_t q7
        exact ⟨o, rfl, by omega, fun h => by omega, fun _ => ho⟩
      · rw [if_neg (by rw [nI_eq (by omega) (by decide)]; exact hk0)] at q7
        obtain ⟨o, ho, ho2, rfl⟩ := zo_r_t (by decide) q7 (by decide)
        exact ⟨o, rfl, by omega, fun _ => ⟨ho, ho2⟩, fun h => by omega⟩
    obtain ⟨ot, rfl, ho1, ho2, ho3⟩ := hot
    rw [hp, nI_clamp (show kd < 2 ^ 31 by omega), nI_clamp (show fr < 2 ^ 31 by omega), nI_clamp (show wh < 2 ^ 31 by omega), nI_clamp ho1, nI_clamp (show am < 2 ^ 31 by omega)]
    obtain ⟨h1, h2, h3, h4, h5, h6, h7, h8, h9, h10, h11, h12, h13, h14, h15, h16⟩ := zi_mono hI (Nat.le_succ N)
    dsimp only
    have h9' : 3 * s + j < 9 := by omega
    generalize 3 * s + j = p at h9'
    have r : ∀ k, k < 20 ∨ 25 < k → u2 (u2 (u2 (u2 (u2 (u2 S 20 p 1) 21 p kd) 22 p fr) 23 p wh) 24 p ot) 25 p am k = S k := by
      intro k hk
      rw [u2_row (by omega), u2_row (by omega), u2_row (by omega), u2_row (by omega), u2_row (by omega), u2_row (by omega)]
    have htx : zi_tx (u2 (u2 (u2 (u2 (u2 (u2 S 20 p 1) 21 p kd) 22 p fr) 23 p wh) 24 p ot) 25 p am) := by
      intro k hk
      by_cases hkp : k = p
      · subst hkp
        have a20 : u2 (u2 (u2 (u2 (u2 (u2 S 20 k 1) 21 k kd) 22 k fr) 23 k wh) 24 k ot) 25 k am 20 k = 1 := by simp [u2]
        have a21 : u2 (u2 (u2 (u2 (u2 (u2 S 20 k 1) 21 k kd) 22 k fr) 23 k wh) 24 k ot) 25 k am 21 k = kd := by simp [u2]
        have a22 : u2 (u2 (u2 (u2 (u2 (u2 S 20 k 1) 21 k kd) 22 k fr) 23 k wh) 24 k ot) 25 k am 22 k = fr := by simp [u2]
        have a23 : u2 (u2 (u2 (u2 (u2 (u2 S 20 k 1) 21 k kd) 22 k fr) 23 k wh) 24 k ot) 25 k am 23 k = wh := by simp [u2]
        have a24 : u2 (u2 (u2 (u2 (u2 (u2 S 20 k 1) 21 k kd) 22 k fr) 23 k wh) 24 k ot) 25 k am 24 k = ot := by simp [u2]
        have a25 : u2 (u2 (u2 (u2 (u2 (u2 S 20 k 1) 21 k kd) 22 k fr) 23 k wh) 24 k ot) 25 k am 25 k = am := by simp [u2]
        refine ⟨by rw [a20]; decide, fun _ => ⟨hk, rfl, rfl, rfl, rfl, rfl, ?_⟩⟩
        rw [a21, a22, a23, a24, a25]
        exact ⟨by omega, by omega, by omega, ho2, ho3, by omega, by omega⟩
      · have z : ∀ q, u2 (u2 (u2 (u2 (u2 (u2 S 20 p 1) 21 p kd) 22 p fr) 23 p wh) 24 p ot) 25 p am q k = S q k := fun q => by rw [u2_i hkp, u2_i hkp, u2_i hkp, u2_i hkp, u2_i hkp, u2_i hkp]
        have := h11 k hk
        unfold zb_tx at this ⊢
        simp only [z]
        exact ⟨this.1, fun h => by have := this.2 h; exact ⟨this.1, trivial, trivial, trivial, trivial, trivial, this.2.2.2.2.2.2⟩⟩
    refine ⟨⟨by rw [r 0 (by omega)]; exact h1, by rw [r 1 (by omega)]; exact h2, by rw [r 16 (by omega)]; exact h3, zs_Tb_r (fun k a b => r k (by omega)) h4, fun p hp => ?_, by rw [r 12 (by omega)]; exact h6, by rw [r 13 (by omega)]; exact h7, ?_, ?_, by rw [r 19 (by omega)]; exact h10, htx, fun y hy => by rw [zv_get_r (S := S) (fun k hk => r k (by omega))]; exact h12 y hy, by rw [r 14 (by omega)]; exact h13, ?_, ?_, ?_⟩, ?_⟩
    · rw [r 6 (by omega), zs_P_r (fun k a b => r k (by omega))]; exact h5 p hp
    · rw [r 7 (by omega), r 8 (by omega), r 9 (by omega), r 10 (by omega), r 11 (by omega)]; exact h8
    · rw [r 16 (by omega), r 17 (by omega), r 18 (by omega)]; exact h9
    · rw [r 7 (by omega), r 12 (by omega)]; exact h14
    · rw [r 7 (by omega), r 0 (by omega)]; exact h15
    · rw [r 7 (by omega), r 12 (by omega)]; exact h16
    · intro y s' hy hs' h
      rw [r 7 (by omega)] at h
      rw [r 14 (by omega)]; exact hJ y s' hy hs' h
  · exact ⟨zi_mono hI (Nat.le_succ N), hJ⟩
end ZK
