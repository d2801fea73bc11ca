/-! The reference: a node's registers in its slot, and the rules. -/
theorem zt0 : (nI true.toNat = 0) = False := by decide
theorem zf0 : (nI false.toNat = 0) = True := by decide
theorem zt1 : (nI true.toNat = nI 1) = True := by decide
theorem zf1 : (nI false.toNat = nI 1) = False := by decide
theorem z10 : (nI 1 = 0) = False := by decide
theorem z00 : (nI 0 = 0) = True := by decide
theorem z01 (p : Bool) : (nI p.toNat = 0 ∨ nI p.toNat = 1) = True := eq_true (zn_b01 p)
theorem z011 : (nI 1 = 0 ∨ nI 1 = 1) = True := by decide
theorem z010 : (nI 0 = 0 ∨ nI 0 = 1) = True := by decide
theorem ztn : nI true.toNat = nI 1 := rfl
theorem zfn : nI false.toNat = nI 0 := rfl
def zw (S : Nat → Nat → Nat) (v : Nat) (Q : zq_Q) : Nat → Nat → Nat := fun k i =>
  if k = 12 ∧ 27 * v + 9 * S 7 v ≤ i ∧ i < 27 * v + 9 * S 7 v + 9 then Q 0 (i - (27 * v + 9 * S 7 v))
  else if k = 13 ∧ 30 * v ≤ i ∧ i < 30 * v + 30 then Q 1 (i - 30 * v)
  else if 8 ≤ k ∧ k < 12 ∧ i = v then Q 2 (k - 8) else S k i
theorem zw_row {S : Nat → Nat → Nat} {v k : Nat} {Q : zq_Q} (h : k < 8 ∨ 13 < k) : zw S v Q k = S k := by
  funext i
  unfold zw
  rw [if_neg (by omega), if_neg (by omega), if_neg (by omega)]
theorem zw_12 {S : Nat → Nat → Nat} {v j : Nat} {Q : zq_Q} (h : j < 9) : zw S v Q 12 (27 * v + 9 * S 7 v + j) = Q 0 j := by
  unfold zw
  rw [if_pos ⟨rfl, by omega, by omega⟩, show 27 * v + 9 * S 7 v + j - (27 * v + 9 * S 7 v) = j by omega]
theorem zw_13 {S : Nat → Nat → Nat} {v j : Nat} {Q : zq_Q} (h : j < 30) : zw S v Q 13 (30 * v + j) = Q 1 j := by
  unfold zw
  rw [if_neg (by omega), if_pos ⟨rfl, by omega, by omega⟩, show 30 * v + j - 30 * v = j by omega]
theorem zw_2 {S : Nat → Nat → Nat} {v k : Nat} {Q : zq_Q} (h : k < 4) : zw S v Q (8 + k) v = Q 2 k := by
  unfold zw
  rw [if_neg (by omega), if_neg (by omega), if_pos ⟨by omega, by omega, rfl⟩, show 8 + k - 8 = k by omega]
theorem zw_un {S : Nat → Nat → Nat} {v k0 i0 x : Nat} {Q Q' : zq_Q} (hx : x = zw S v Q' k0 i0)
    (h0 : ∀ i, 27 * v + 9 * S 7 v ≤ i → i < 27 * v + 9 * S 7 v + 9 → ¬ (12 = k0 ∧ i = i0) → Q 0 (i - (27 * v + 9 * S 7 v)) = Q' 0 (i - (27 * v + 9 * S 7 v)))
    (h1 : ∀ i, 30 * v ≤ i → i < 30 * v + 30 → ¬ (13 = k0 ∧ i = i0) → Q 1 (i - 30 * v) = Q' 1 (i - 30 * v))
    (h2 : ∀ k, 8 ≤ k → k < 12 → ¬ (k = k0 ∧ v = i0) → Q 2 (k - 8) = Q' 2 (k - 8)) (hr : S k0 i0 = S k0 i0) : u2 (zw S v Q) k0 i0 x = zw S v Q' := by
  funext k i
  show (if k = k0 ∧ i = i0 then x else zw S v Q k i) = zw S v Q' k i
  by_cases hc : k = k0 ∧ i = i0
  · rw [if_pos hc, hx, hc.1, hc.2]
  · rw [if_neg hc]
    unfold zw
    by_cases c1 : k = 12 ∧ 27 * v + 9 * S 7 v ≤ i ∧ i < 27 * v + 9 * S 7 v + 9
    · rw [if_pos c1, if_pos c1]
      exact h0 i c1.2.1 c1.2.2 (fun q => hc ⟨c1.1.trans q.1, q.2⟩)
    · rw [if_neg c1, if_neg c1]
      by_cases c2 : k = 13 ∧ 30 * v ≤ i ∧ i < 30 * v + 30
      · rw [if_pos c2, if_pos c2]
        exact h1 i c2.2.1 c2.2.2 (fun q => hc ⟨c2.1.trans q.1, q.2⟩)
      · rw [if_neg c2, if_neg c2]
        by_cases c3 : 8 ≤ k ∧ k < 12 ∧ i = v
        · rw [if_pos c3, if_pos c3]
          exact h2 k c3.1 c3.2.1 (fun q => hc ⟨q.1, c3.2.2.trans q.2⟩)
        · rw [if_neg c3, if_neg c3]
theorem zw_u12 {S : Nat → Nat → Nat} {v j x : Nat} {Q : zq_Q} (h : j < 9) : u2 (zw S v Q) 12 (27 * v + 9 * S 7 v + j) x = zw S v (u2 Q 0 j x) := by
  refine zw_un ?_ (fun i a b c => ?_) (fun i a b c => ?_) (fun k a b c => ?_) rfl
  · rw [zw_12 h, u2_s]
  · rw [u2_i (by omega)]
  · rw [u2_k (by decide)]
  · rw [u2_k (by decide)]
theorem zw_u13 {S : Nat → Nat → Nat} {v j x : Nat} {Q : zq_Q} (h : j < 30) : u2 (zw S v Q) 13 (30 * v + j) x = zw S v (u2 Q 1 j x) := by
  refine zw_un ?_ (fun i a b c => ?_) (fun i a b c => ?_) (fun k a b c => ?_) rfl
  · rw [zw_13 h, u2_s]
  · rw [u2_k (by decide)]
  · rw [u2_i (by omega)]
  · rw [u2_k (by decide)]
theorem zw_u2 {S : Nat → Nat → Nat} {v k x : Nat} {Q : zq_Q} (h : k < 4) : u2 (zw S v Q) (8 + k) v x = zw S v (u2 Q 2 k x) := by
  refine zw_un ?_ (fun i a b c => ?_) (fun i a b c => ?_) (fun q a b c => ?_) rfl
  · rw [zw_2 h, u2_s]
  · rw [u2_k (by decide)]
  · rw [u2_k (by decide)]
  · rw [u2_i (by omega)]
def zq_B (Q : zq_Q) : Prop := (∀ j, j < 9 → Q 0 j < 2 ^ 28) ∧ (∀ j, j < 30 → Q 1 j < 2 ^ 28) ∧ Q 2 1 < 32 ∧ Q 2 2 ≤ 4 ∧ Q 2 3 ≤ 7
theorem zq_put_B {Q : zq_Q} {k h b : Nat} (hB : zq_B Q) (hj : 3 * k + h < 9) (hb : b < 28) : zq_B (zq_put Q k h b) := by
  refine ⟨fun j hj2 => ?_, fun j hj2 => ?_, ?_, ?_, ?_⟩
  · unfold zq_put u2
    split
    · exact Nat.or_lt_two_pow (hB.1 _ hj) (Nat.pow_lt_pow_right (by decide) hb)
    · exact hB.1 j hj2
  · unfold zq_put; rw [u2_k (by decide)]; exact hB.2.1 j hj2
  · unfold zq_put; rw [u2_k (by decide)]; exact hB.2.2.1
  · unfold zq_put; rw [u2_k (by decide)]; exact hB.2.2.2.1
  · unfold zq_put; rw [u2_k (by decide)]; exact hB.2.2.2.2
/-- what holds of the node whose rules run -/
def zc (S : Nat → Nat → Nat) (v : Nat) : Prop := v < 5 ∧ S 7 v < 3 ∧ zs_Tb S ∧ ∀ p, p < 32 → S 6 p = (zq_quo (zs_P S) p).toNat
section RU
variable {S : Nat → Nat → Nat} {v : Nat} {d : za_h} {m : Nat} {Q : zq_Q}
theorem zs_P_w : zs_P (zw S v Q) = zs_P S := by
  funext a b; unfold zs_P
  rw [zw_row (by omega), zw_row (by omega), zw_row (by omega), zw_row (by omega)]
theorem zs_satw (hC : zc S v) {set w : Nat} (hs : set < 32) (hw : w < 5) : zf_Mo_satisfies m (nI set) (nI w) (zr d m (zw S v Q)) = some (nI (zs_P S set w).toNat, zr d m (zw S v Q)) := by
  have hT : zs_Tb (zw S v Q) := by
    intro u hu
    rw [zw_row (by omega), zw_row (by omega), zw_row (by omega), zw_row (by omega)]
    exact hC.2.2.1 u hu
  rw [zs_sat hT hs hw, zs_P_w]
theorem zs_givw (hC : zc S v) {set w : Nat} (hs : set < 32) (hw : w < 5) : zf_Mo_gives m (nI set) (nI w) (zr d m (zw S v Q)) = some (nI (zq_giv (zs_P S) set w).toNat, zr d m (zw S v Q)) := by
  rw [zs_gives (S := zw S v Q) (fun p hp => by rw [zs_P_w, zw_row (by omega)]; exact hC.2.2.2 p hp) hs hw, zs_P_w]
theorem zs_place (hC : zc S v) {k h : Nat} (hk : k < 3) (hh : h < 3) : zf_Mo_place m (nI v) (nI k) (nI h) (zr d m (zw S v Q)) = some (nI (27 * v + 9 * S 7 v + (3 * k + h)), zr d m (zw S v Q)) := by
  unfold zf_Mo_place
  simp only [zr_g7, Option.bind_some, zr_l7 hC.1, pk_mul, nI_add]
  rw [zw_row (by omega), Nat.add_assoc (27 * v + 9 * S 7 v)]
theorem zs_has (hC : zc S v) (hB : zq_B Q) {k h b : Nat} (hk : k < 3) (hh : h < 3) (hb : b < 28) : zf_Mo_has m (nI v) (nI k) (nI h) (nI b) (zr d m (zw S v Q)) = some (nI (zq_has Q k h b).toNat, zr d m (zw S v Q)) := by
  have hv := hC.1
  have hs := hC.2.1
  have hj : 3 * k + h < 9 := by omega
  have hb2 := hB.1 _ hj
  unfold zf_Mo_has
  simp only [zr_g12, zr_gc, Option.bind_some, zs_place hC hk hh]
  rw [zr_l12 (by omega), zw_12 hj]
  simp only [Option.bind_some]
  rw [zn_bit (by omega) (by omega)]
  unfold zf_Mo_has_26 zq_has
  cases (Q 0 (3 * k + h)).testBit b <;> rfl
theorem zq_or_eq {a b : Nat} : (a ||| 2 ^ b = a) ↔ a.testBit b = true := by
  constructor
  · intro h
    rw [← h]
    simp
  · intro h
    apply Nat.eq_of_testBit_eq
    intro i
    rw [Nat.testBit_or, Nat.testBit_two_pow]
    by_cases hi : b = i
    · subst hi; simp [h]
    · simp [hi]
theorem zs_put (hC : zc S v) (hB : zq_B Q) {k h b : Nat} (hk : k < 3) (hh : h < 3) (hb : b < 28) : zf_Mo_put m (nI v) (nI k) (nI h) (nI b) (zr d m (zw S v Q)) = some (nI (!zq_has Q k h b).toNat, zr d m (zw S v (zq_put Q k h b))) := by
  have hv := hC.1
  have hs := hC.2.1
  have hj : 3 * k + h < 9 := by omega
  have hb2 := hB.1 _ hj
  have hx : (Q 0 (3 * k + h) ||| 2 ^ b) < 2 ^ 28 := Nat.or_lt_two_pow hb2 (Nat.pow_lt_pow_right (by decide) hb)
  have hi : 27 * v + 9 * S 7 v + (3 * k + h) < 135 := by omega
  unfold zf_Mo_put
  simp only [zr_g12, zr_gc, Option.bind_some, zs_place hC hk hh, zr_l12 hi, zw_12 hj, zn_shl (show b < 32 by omega), zn_or, Nat.one_mul, zr_s12 hi, zw_u12 hj, u2_s]
  unfold zf_Mo_put_49
  simp only [nI_eq (show (Q 0 (3 * k + h) ||| 2 ^ b) < 2 ^ 31 by omega) (show Q 0 (3 * k + h) < 2 ^ 31 by omega), z010, z011, if_true]
  by_cases hq : (Q 0 (3 * k + h)).testBit b = true
  · rw [if_pos (zq_or_eq.mpr hq)]
    unfold zq_has zq_put
    rw [hq]; rfl
  · rw [if_neg (fun h => hq (zq_or_eq.mp h))]
    unfold zq_has zq_put
    rw [Bool.eq_false_iff.mpr hq]; rfl
end RU
