/-! The relation is kept: a slot goes on. -/
section YCG
variable {P P' : Nat → Nat → Bool} {v : Nat}
theorem zqc_acc (h : ∀ set w, w < 5 → P set w = P' set w) (hv : v < 5) : zq_acc P v = zq_acc P' v := by
  funext k b Q
  unfold zq_acc zq_may
  rw [h _ _ hv, zq_giv_c h]
theorem zqc_cf (h : ∀ set w, w < 5 → P set w = P' set w) : zq_cf P v = zq_cf P' v := by
  funext Q k b
  unfold zq_cf
  rw [zq_giv_c h]
theorem zqc_con (h : ∀ set w, w < 5 → P set w = P' set w) : zq_con P v = zq_con P' v := by
  funext k b Q
  unfold zq_con
  rw [zqc_cf h]
theorem zqc_H (h : ∀ set w, w < 5 → P set w = P' set w) (hv : v < 5) : ∀ (n b : Nat) (m : Bool) (Q : zq_Q), zq_H P v n b m Q = zq_H P' v n b m Q := by
  intro n
  induction n with
  | zero => intro b m Q; rfl
  | succ n ih => intro b m Q; rw [zq_H_s, zq_H_s, zqc_acc h hv, zqc_cf h, ih]
theorem zqc_pre (h : ∀ set w, w < 5 → P set w = P' set w) (hv : v < 5) (Q : zq_Q) : zq_pre P v Q = zq_pre P' v Q := by
  unfold zq_pre
  rw [zqc_acc h hv, zqc_con h]
theorem zqc_end (h : ∀ set w, w < 5 → P set w = P' set w) (hv : v < 5) (Q : zq_Q) : zq_end P v Q = zq_end P' v Q := by
  unfold zq_end
  rw [zqc_pre h hv, zqc_H h hv]
theorem zqc_stir (h : ∀ set w, w < 5 → P set w = P' set w) (hv : v < 5) : ∀ (f : Nat) (Q : zq_Q), zq_stir P v f Q = zq_stir P' v f Q := by
  intro f
  induction f with
  | zero => intro Q; rfl
  | succ f ih => intro Q; rw [zq_stir_s, zq_stir_s, zqc_end h hv, zqc_pre h hv, ih]
end YCG
section YRL
variable {d : za_h} {x v : Nat} {T : Nat → Nat → Nat} {U : Nat → Nat → Option Nat} {S : Nat → Nat → Nat} {Q : zq_Q}
theorem zq_sat_g {th me inn gr set : Nat} : zq_sat th me inn (if inn = 0 then 0 else gr) set = zq_sat th me inn gr set := by
  unfold zq_sat
  by_cases h : inn = 0
  · subst h; rfl
  · rw [if_neg h]
theorem yR_P (h : yR0 T S) (set w : Nat) (hw : w < 5) : yP T set w = zs_P S set w := by
  obtain ⟨-, -, -, ht, -⟩ := h
  obtain ⟨t0, t1, t2, t3⟩ := ht w hw
  unfold yP zs_P
  rw [t0, t1, t2, t3, zq_sat_g]
theorem yR_T (h : yR0 T S) (hs : zs_Tb S) : yTb T := by
  obtain ⟨-, -, -, ht, -⟩ := h
  intro w hw
  obtain ⟨t0, t1, t2, t3⟩ := ht w hw
  obtain ⟨s0, s1, s2, s3⟩ := hs w hw
  rw [t0, t1, t2, t3]
  refine ⟨s0, s1, s2, ?_⟩
  split
  · decide
  · exact s3
theorem yR_c (h : yR0 T S) (hv : v < 5) : yc T v = zq_cand S v := by
  obtain ⟨-, -, -, ht, -⟩ := h
  obtain ⟨t0, t1, t2, t3⟩ := ht v hv
  unfold yc zq_cand
  rw [t1, t3, Nat.or_assoc, Nat.or_assoc, Nat.or_comm (2 ^ v)]
theorem zw_o12 {i : Nat} (h : i < 27 * v + 9 * S 7 v ∨ 27 * v + 9 * S 7 v + 9 ≤ i) : zw S v Q 12 i = S 12 i := by
  unfold zw; rw [if_neg (by omega), if_neg (by omega), if_neg (by omega)]
theorem zw_o13 {i : Nat} (h : i < 30 * v ∨ 30 * v + 30 ≤ i) : zw S v Q 13 i = S 13 i := by
  unfold zw; rw [if_neg (by omega), if_neg (by omega), if_neg (by omega)]
theorem zw_o2 {k i : Nat} (hk : k < 12) (h : i ≠ v) : zw S v Q k i = S k i := by
  unfold zw; rw [if_neg (by omega), if_neg (by omega), if_neg (by omega)]
/-- the class's registers stand at their place -/
theorem yR_zt {s : Nat} (hA : yRa T S v s) (hB : yRb T S v s) (hs : s = S 7 v) (hv : v < 5) : zt T v s (zw_get S v) = T := by
  have eq : yRq S v s = zw_get S v := by unfold yRq; rw [if_pos hs]
  obtain ⟨a10, ha⟩ := hA
  obtain ⟨b6, b7, hb⟩ := hB
  rw [eq] at b6 b7 hb
  refine (zt_ext (fun q j _ => rfl) (fun j => ?_) (fun k c j hk hc => ?_)).symm
  · by_cases h6 : j = 6
    · subst h6; rw [zt_6, b6]
    · by_cases h7 : 7 ≤ j ∧ j < 10
      · obtain ⟨i, rfl⟩ : ∃ i, j = 7 + i := ⟨j - 7, by omega⟩
        rw [zt_79 (by omega), b7 i (by omega)]
      · rw [zt_10 (by omega)]
  · obtain ⟨k1, k2, k3, k4⟩ := ha k hk
    have e0 : ∀ h, zw_get S v 0 (3 * k + h) = S 12 (27 * v + 9 * s + 3 * k + h) := fun h => by
      unfold zw_get; rw [if_pos rfl, ← hs, Nat.add_assoc (27 * v + 9 * s)]
    have e00 : zw_get S v 0 (3 * k) = S 12 (27 * v + 9 * s + 3 * k) := e0 0
    rw [zt_S hk hc]
    rcases (show c = 0 ∨ c = 1 ∨ c = 2 by omega) with rfl | rfl | rfl
    · rw [if_pos rfl]
      by_cases h2 : j = 2
      · subst h2; rw [if_pos rfl, e00]; exact k1
      · rw [if_neg h2]
        by_cases h3 : j = 3
        · subst h3; rw [if_pos rfl, e0]; exact k2
        · rw [if_neg h3]
    · rw [if_neg (by decide)]
      by_cases h5 : 5 ≤ j
      · rw [if_pos h5]
      · rw [if_neg h5, if_pos rfl]
        by_cases hj : j = v
        · subst hj; rw [if_pos rfl, e00, e0]; exact k4
        · rw [if_neg hj]; exact (hb k j hk (by omega) hj).1
    · rw [if_neg (by decide)]
      by_cases h5 : 5 ≤ j
      · rw [if_pos h5]
      · rw [if_neg h5, if_neg (by decide)]
        by_cases hj : j = v
        · subst hj; rw [if_pos rfl, e0]; exact k3
        · rw [if_neg hj]; exact (hb k j hk (by omega) hj).2
theorem qd_L {w s q : Nat} (hs : s < 3) (h : qL w ≤ q ∧ q ≤ qL w + 3) : q < qA v s ∨ qA v s + 10 ≤ q := by
  unfold qL at h
  unfold qA
  rcases (show s = 0 ∨ s = 1 ∨ s = 2 by omega) with rfl | rfl | rfl <;> omega
theorem qd_N {w s : Nat} (hs : s < 3) : qN w < qA v s ∨ qA v s + 10 ≤ qN w := by
  unfold qN qA
  rcases (show s = 0 ∨ s = 1 ∨ s = 2 by omega) with rfl | rfl | rfl <;> omega
theorem zk_zt {s w : Nat} {L : zq_Q} (hv : v < 5) (hw : w < 5) (hs : s < 3) (h : zk T w L = T) : zk (zt T v s Q) w L = zt T v s Q := by
  funext q j
  have hq := congrFun (congrFun h q) j
  have e1 : qL w = 41 + 36 * w := by unfold qL; omega
  have e2 : qA v s = 11 + 36 * v + 10 * s := by unfold qA; omega
  unfold zk at hq ⊢
  by_cases c1 : q = qL w ∧ j = 3
  · rw [if_pos c1] at hq ⊢; rw [hq, zt_out (qd_L (w := w) hs (by omega))]
  · rw [if_neg c1] at hq ⊢
    by_cases c2 : q = qL w + 1 ∧ j < 4
    · rw [if_pos c2] at hq ⊢; rw [hq, zt_out (qd_L (w := w) hs (by omega))]
    · rw [if_neg c2] at hq ⊢
      by_cases c3 : q = qL w + 2 ∧ j < 4
      · rw [if_pos c3] at hq ⊢; rw [hq, zt_out (qd_L (w := w) hs (by omega))]
      · rw [if_neg c3]
theorem zw_get_o {w c j : Nat} (hw : w ≠ v) (h0 : c = 0 → 9 * S 7 w + j < 27) (h1 : c = 1 → j < 30) (h2 : c ≠ 0 → c ≠ 1 → j < 4) (hs : S 7 v < 3) : zw_get (zw S v Q) w c j = zw_get S w c j := by
  unfold zw_get
  rw [show zw S v Q 7 w = S 7 w by rw [zw_row (by omega)]]
  by_cases c0 : c = 0
  · have := h0 c0
    rw [if_pos c0, if_pos c0, zw_o12 (by omega)]
  · rw [if_neg c0, if_neg c0]
    by_cases c1 : c = 1
    · have := h1 c1
      rw [if_pos c1, if_pos c1, zw_o13 (by omega)]
    · have := h2 c0 c1
      rw [if_neg c1, if_neg c1, zw_o2 (by omega) hw]
theorem zw_get_s {c j : Nat} (h0 : c = 0 → j < 9) (h1 : c = 1 → j < 30) (hc : c < 3) (h2 : c = 2 → j < 4) : zw_get (zw S v Q) v c j = Q c j := by
  unfold zw_get
  rw [show zw S v Q 7 v = S 7 v by rw [zw_row (by omega)]]
  rcases (show c = 0 ∨ c = 1 ∨ c = 2 by omega) with rfl | rfl | rfl
  · rw [if_pos rfl, zw_12 (h0 rfl)]
  · rw [if_neg (by decide), if_pos rfl, zw_13 (h1 rfl)]
  · rw [if_neg (by decide), if_neg (by decide), zw_2 (h2 rfl)]
theorem yR_go (hR : yR d x T U S) (hv : v < 5) (hs : S 7 v < 3) : yR d x (zt T v (S 7 v) Q) U (zw S v Q) := by
  obtain ⟨⟨g1, g2, g3, g4, g5⟩, hA, hBb, hL, hD, hT, hM, hd⟩ := hR
  have e2 : qA v (S 7 v) = 11 + 36 * v + 10 * S 7 v := by unfold qA; omega
  have r : ∀ k, k < 8 ∨ 13 < k → zw S v Q k = S k := fun k hk => zw_row hk
  have r7 := r 7 (by omega)
  refine ⟨⟨?_, ?_, ?_, fun w hw => ?_, fun w hw => ?_⟩, fun w s hw hs' => ?_, fun w s hw hs' hle => ?_, fun w hw => ?_, hD, ?_, ?_, hd⟩
  · rw [zt_out (by omega), r 0 (by omega)]; exact g1
  · rw [zt_out (by omega), r 16 (by omega)]; exact g2
  · rw [zt_out (by omega), r 1 (by omega)]; exact g3
  · rw [zt_out (by omega), zt_out (by omega), zt_out (by omega), zt_out (by omega), r 2 (by omega), r 3 (by omega), r 4 (by omega), r 5 (by omega)]; exact g4 w hw
  · rw [zt_out (qd_N hs), zt_out (qd_N hs), r7, r 15 (by omega)]; exact g5 w hw
  · -- every slot
    unfold yRa
    rw [r 14 (by omega)]
    by_cases hc : w = v ∧ s = S 7 v
    · obtain ⟨rfl, rfl⟩ := hc
      refine ⟨by rw [zt_10 (by omega)]; exact (hA w _ hw hs').1, fun k hk => ?_⟩
      have z : ∀ h, h < 3 → zw S w Q 12 (27 * w + 9 * S 7 w + 3 * k + h) = Q 0 (3 * k + h) := fun h hh => by
        rw [Nat.add_assoc (27 * w + 9 * S 7 w)]; exact zw_12 (by omega)
      have z0 : zw S w Q 12 (27 * w + 9 * S 7 w + 3 * k) = Q 0 (3 * k) := z 0 (by decide)
      rw [z0, z 1 (by decide), z 2 (by decide), zt_vo hk, zt_co hk, zt_ac hk hw, zt_bk hk hw, if_pos rfl, if_pos rfl]
      exact ⟨rfl, rfl, rfl, rfl⟩
    · have hA' := hA w s hw hs'
      have e3 : qA w s = 11 + 36 * w + 10 * s := by unfold qA; omega
      have e4 : ∀ k, qS w s k = 12 + 36 * w + 10 * s + 3 * k := fun k => by unfold qS; omega
      have hq : ∀ q, 11 + 36 * w + 10 * s ≤ q → q < 21 + 36 * w + 10 * s → q < qA v (S 7 v) ∨ qA v (S 7 v) + 10 ≤ q := by
        intro q h1 h2
        rw [e2]
        by_cases hwv : w = v
        · subst hwv
          have : s ≠ S 7 w := fun h => hc ⟨rfl, h⟩
          omega
        · omega
      refine ⟨by rw [zt_out (hq _ (by omega) (by omega))]; exact hA'.1, fun k hk => ?_⟩
      have hi : ∀ h, h < 3 → zw S v Q 12 (27 * w + 9 * s + 3 * k + h) = S 12 (27 * w + 9 * s + 3 * k + h) := by
        intro h hh
        refine zw_o12 ?_
        by_cases hwv : w = v
        · subst hwv
          have : s ≠ S 7 w := fun h => hc ⟨rfl, h⟩
          omega
        · omega
      have hi0 := hi 0 (by decide)
      rw [Nat.add_zero] at hi0
      rw [zt_out (hq _ (by rw [e4]; omega) (by rw [e4]; omega)), zt_out (hq _ (by rw [e4]; omega) (by rw [e4]; omega)), zt_out (hq _ (by rw [e4]; omega) (by rw [e4]; omega)), zt_out (hq _ (by rw [e4]; omega) (by rw [e4]; omega)), hi0, hi 1 (by decide), hi 2 (by decide)]
      exact hA'.2 k hk
  · -- the slot at work, and those to come
    rw [r7] at hle
    by_cases hc : w = v ∧ s = S 7 v
    · obtain ⟨rfl, rfl⟩ := hc
      unfold yRb
      have eq : yRq (zw S w Q) w (S 7 w) = zw_get (zw S w Q) w := by unfold yRq; rw [r7, if_pos rfl]
      rw [eq]
      refine ⟨by rw [zt_6, zw_get_s (fun h => by cases h) (fun h => by cases h) (by decide) (fun _ => by decide)], fun j hj => by rw [zt_79 hj, zw_get_s (fun h => by cases h) (fun h => by cases h) (by decide) (fun _ => by omega)], fun k j hk hj hjv => ?_⟩
      rw [zt_bk hk hj, zt_ac hk hj, if_neg hjv, if_neg hjv, zw_get_s (fun h => by cases h) (fun _ => by omega) (by decide) (fun h => by cases h), zw_get_s (fun h => by cases h) (fun _ => by omega) (by decide) (fun h => by cases h)]
      exact ⟨rfl, rfl⟩
    · have hB' := hBb w s hw hs' hle
      have e3 : qA w s = 11 + 36 * w + 10 * s := by unfold qA; omega
      have e4 : ∀ k, qS w s k = 12 + 36 * w + 10 * s + 3 * k := fun k => by unfold qS; omega
      have hq : ∀ q, 11 + 36 * w + 10 * s ≤ q → q < 21 + 36 * w + 10 * s → q < qA v (S 7 v) ∨ qA v (S 7 v) + 10 ≤ q := by
        intro q h1 h2
        rw [e2]
        by_cases hwv : w = v
        · subst hwv
          have : s ≠ S 7 w := fun h => hc ⟨rfl, h⟩
          omega
        · omega
      have hqq : ∀ c j, c = 1 ∨ c = 2 → (c = 1 → j < 30) → (c = 2 → j < 4) → yRq (zw S v Q) w s c j = yRq S w s c j := by
        intro c j hcc h1 h2
        unfold yRq
        rw [r7]
        by_cases hsw : s = S 7 w
        · rw [if_pos hsw, if_pos hsw]
          have hwv : w ≠ v := fun h => hc ⟨h, by rw [hsw, h]⟩
          exact zw_get_o hwv (fun h => by omega) h1 (fun _ _ => h2 (by omega)) hs
        · rw [if_neg hsw, if_neg hsw]
      unfold yRb
      refine ⟨by rw [zt_out (hq _ (by omega) (by omega)), hqq 2 3 (Or.inr rfl) (fun h => by cases h) (fun _ => by decide)]; exact hB'.1, fun j hj => by rw [zt_out (hq _ (by omega) (by omega)), hqq 2 j (Or.inr rfl) (fun h => by cases h) (fun _ => by omega)]; exact hB'.2.1 j hj, fun k j hk hj hjv => ?_⟩
      rw [zt_out (hq _ (by rw [e4]; omega) (by rw [e4]; omega)), zt_out (hq _ (by rw [e4]; omega) (by rw [e4]; omega)), hqq 1 _ (Or.inl rfl) (fun _ => by omega) (fun h => by cases h), hqq 1 _ (Or.inl rfl) (fun _ => by omega) (fun h => by cases h)]
      exact hB'.2.2 k j hk hj hjv
  · have eg : zv_get (zw S v Q) w = zv_get S w := by
      funext j i; unfold zv_get
      rw [r 26 (by omega), r 27 (by omega), r (27 + j) (by omega)]
    unfold yRl
    rw [eg]
    exact ⟨zk_zt hv hw hs (hL w hw).1, (hL w hw).2⟩
  · unfold yRt
    rw [r 20 (by omega), r 21 (by omega), r 22 (by omega), r 23 (by omega), r 24 (by omega), r 25 (by omega)]
    exact hT
  · unfold yRm
    rw [r 16 (by omega), r 17 (by omega), r 18 (by omega), r 19 (by omega)]
    exact hM
end YRL
