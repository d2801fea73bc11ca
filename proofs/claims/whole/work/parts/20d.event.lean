/-! An event's end: stir, then the slot closes. -/
section YEV
variable {d : za_h} {x v : Nat} {T : Nat → Nat → Nat} {U : Nat → Nat → Option Nat} {S : Nat → Nat → Nat} {Q : zq_Q}
theorem zv_get_w {y : Nat} : zv_get (zw S v Q) y = zv_get S y := by
  funext j i; unfold zv_get
  rw [zw_row (by omega), zw_row (by omega), zw_row (show 27 + j < 8 ∨ 13 < 27 + j by omega)]
theorem zi_tx_w (h : zi_tx S) : zi_tx (zw S v Q) := by
  intro k hk
  have := h k hk
  unfold zb_tx at this ⊢
  rw [zw_row (by omega), zw_row (by omega), zw_row (by omega), zw_row (by omega), zw_row (by omega), zw_row (by omega)]
  exact this
theorem uk_id : uk U v (U (qL v + 3)) = U := by
  funext q; unfold uk; split
  · rename_i h; rw [h]
  · rfl
/-- frame of a call -/
def yF (x : Nat) (d d' : za_h) : Prop := d.2 ≤ d'.2 ∧ ∀ b, b < x + 221 → d'.1 b = d.1 b
theorem yF_r : yF x d d := ⟨Nat.le_refl _, fun _ _ => rfl⟩
def yout (o : Option Nat) : Nat := match o with
  | none => 0
  | some b => zq_wo b
theorem yo_10 {o : Option Nat} {s : Nat} (h : T (qA v s) 10 = 0) : zt (yo T v s o) v s Q (qA v s) 10 = yout o := by
  rw [zt_10 (by omega)]
  cases o with
  | none => exact h
  | some b => unfold yo yout; dsimp only; rw [u2_s]
theorem yclose (hR : yR d x T U S) (hv : v < 5) (hs : S 7 v < 3) (htx : zi_tx S) (hLB : ∀ y, y < 5 → zl_B (zv_get S y)) (r : Option Nat × zq_Q) :
    ∃ d' T' U', zf_TL_closeSlot x (x + qN v) (nI (yout r.1)) (zx d x (zt (yo T v (S 7 v) r.1) v (S 7 v) r.2) U) = some ((), zx d' x T' U') ∧ yR d' x T' U' (zs_res S v r) ∧ yF x d d' := by
  obtain ⟨o, Q'⟩ := r
  have hR1 := yR_go (Q := Q') hR hv hs
  cases o with
  | none =>
    refine ⟨d, zt T v (S 7 v) Q', U, ?_, hR1, yF_r⟩
    show zf_TL_closeSlot x (x + qN v) (nI 0) (zx d x (zt T v (S 7 v) Q') U) = _
    unfold zf_TL_closeSlot
    rw [if_pos (show nI 0 = 0 by decide)]
  | some b =>
    have hw := zq_wo_b b
    have e7 : zw S v Q' 7 v = S 7 v := by rw [zw_row (by omega)]
    have hB1 : ∀ y, y < 5 → zl_B (zv_get (zw S v Q') y) := fun y hy => by rw [zv_get_w]; exact hLB y hy
    have htx1 := zi_tx_w (v := v) (Q := Q') htx
    have hL1 := hR1.2.2.2.1 v hv
    have hN1 := hR1.1.2.2.2.2 v hv
    have eT : zt (yo T v (S 7 v) (some b)) v (S 7 v) Q' = u2 (zt T v (S 7 v) Q') (qA v (S 7 v)) 10 (zq_wo b) := by rw [zt_u10]; rfl
    have hAN : qN v ≠ qA v (S 7 v) := by unfold qN qA; omega
    have hz : zk (u2 (zt T v (S 7 v) Q') (qA v (S 7 v)) 10 (zq_wo b)) v (zv_get (zw S v Q') v) = u2 (zt T v (S 7 v) Q') (qA v (S 7 v)) 10 (zq_wo b) := by
      funext q j
      have hq := congrFun (congrFun hL1.1 q) j
      have hL : ∀ i, i ≤ 2 → qL v + i ≠ qA v (S 7 v) := fun i hi => by unfold qL qA; omega
      have hL0 : qL v ≠ qA v (S 7 v) := hL 0 (by decide)
      unfold zk at hq ⊢
      by_cases c1 : q = qL v ∧ j = 3
      · rw [if_pos c1] at hq ⊢; rw [hq, c1.1, u2_k hL0]
      · rw [if_neg c1] at hq ⊢
        by_cases c2 : q = qL v + 1 ∧ j < 4
        · rw [if_pos c2] at hq ⊢; rw [hq, c2.1, u2_k (hL 1 (by decide))]
        · rw [if_neg c2] at hq ⊢
          by_cases c3 : q = qL v + 2 ∧ j < 4
          · rw [if_pos c3] at hq ⊢; rw [hq, c3.1, u2_k (hL 2 (by decide))]
          · rw [if_neg c3]
    obtain ⟨d', u', f1, f2, f3, f4, f5⟩ := yclose7 (d := d) (x := x) (v := v) (T := u2 (zt T v (S 7 v) Q') (qA v (S 7 v)) 10 (zq_wo b)) (U := U) (u := U (qL v + 3)) (L := zv_get (zw S v Q') v) (S := zw S v Q') hv (s := zw S v Q' 7 v) (w := zq_wo b) (hd := zw S v Q' 15 v) (by omega) (by omega) (hB1 v hv) hL1.2 hR1.2.2.2.2.2.2.2 htx1 (by rw [u2_k hAN]; exact hN1.1) (by rw [u2_k hAN]; exact hN1.2) hR1.2.2.2.2.2.1 3 0 4 d (U (qL v + 3)) (by decide) (by decide) hL1.2 (Nat.le_refl _) (fun _ _ _ => rfl) (fun k b hk h => Or.inr ⟨k, hk, h⟩)
    have hx := yR_ext (w := zq_wo b) hR1 hv (by rw [e7]; exact hs) hB1 f2 (zl_run_B htx1 (by rw [e7]; exact hs) 3 (by decide) _ (hB1 v hv)).2.2.1 f3 f4 f5
    refine ⟨d', _, _, ?_, hx, f3, fun b hb => f4 b (by have := hR1.2.2.2.2.2.2.2; omega) (fun k hk h => ?_)⟩
    · have h0 : zl_run (zw S v Q') (zw S v Q' 7 v) (zq_wo b) 0 (zv_get (zw S v Q') v) = zv_get (zw S v Q') v := rfl
      rw [h0, hz, uk_id] at f1
      unfold zf_TL_closeSlot yout
      dsimp only
      rw [if_neg (by rw [zn_eq0 (by omega)]; omega), eT, f1, e7]
      unfold yT zs_led
      rw [e7]
    · have h8 := (hB1 v hv).2.2.1
      by_cases hkL : k < zv_get (zw S v Q') v 5 0
      · obtain ⟨a, a1, a2, -⟩ := hL1.2.1 k hkL
        rw [h] at a1; cases a1; omega
      · rw [hL1.2.2.1 k (by omega) hk] at h; cases h
end YEV
