/-! What each call does to the state S, and the reference's calls. -/
def zw_get (S : Nat → Nat → Nat) (v : Nat) : zq_Q := fun c j => if c = 0 then S 12 (27 * v + 9 * S 7 v + j) else if c = 1 then S 13 (30 * v + j) else S (8 + j) v
theorem zw_id {S : Nat → Nat → Nat} {v : Nat} : zw S v (zw_get S v) = S := by
  funext k i
  unfold zw zw_get
  by_cases c1 : k = 12 ∧ 27 * v + 9 * S 7 v ≤ i ∧ i < 27 * v + 9 * S 7 v + 9
  · rw [if_pos c1, if_pos rfl, show 27 * v + 9 * S 7 v + (i - (27 * v + 9 * S 7 v)) = i by omega, c1.1]
  · rw [if_neg c1]
    by_cases c2 : k = 13 ∧ 30 * v ≤ i ∧ i < 30 * v + 30
    · rw [if_pos c2, if_neg (by decide), if_pos rfl, show 30 * v + (i - 30 * v) = i by omega, c2.1]
    · rw [if_neg c2]
      by_cases c3 : 8 ≤ k ∧ k < 12 ∧ i = v
      · rw [if_pos c3, if_neg (by decide), if_neg (by decide), show 8 + (k - 8) = k by omega, c3.2.2]
      · rw [if_neg c3]
theorem zw_begun {S : Nat → Nat → Nat} {v x : Nat} {Q : zq_Q} : u2 (zw S v Q) 1 0 x = zw (u2 S 1 0 x) v Q := by
  funext k i
  unfold u2 zw
  simp only [show ¬ (7 = 1) by decide, false_and, if_false]
  by_cases c0 : k = 1 ∧ i = 0
  · rw [if_pos c0, if_neg (by omega), if_neg (by omega), if_neg (by omega), if_pos c0]
  · rw [if_neg c0, if_neg c0]
def zo_good (fa : Nat) (x : Int32) : Bool := (List.range 5).any fun v => decide (x = nI v) && !fa.testBit v
theorem zo_good_t {fa : Nat} {x : Int32} (h : zo_good fa x = true) : ∃ v, v < 5 ∧ x = nI v ∧ fa.testBit v = false := by
  unfold zo_good at h
  obtain ⟨v, h1, h2⟩ := List.any_eq_true.mp h
  simp only [Bool.and_eq_true, decide_eq_true_eq, Bool.not_eq_true'] at h2
  exact ⟨v, List.mem_range.mp h1, h2.1, h2.2⟩
theorem zo_good_i {fa v : Nat} (hv : v < 5) (h : fa.testBit v = false) : zo_good fa (nI v) = true := by
  unfold zo_good
  exact List.any_eq_true.mpr ⟨v, List.mem_range.mpr hv, by simp [h]⟩
theorem zn_5 {x : Int32} (h : nI 0 ≤ x ∧ x ≤ nI 4) : ∃ v, v < 5 ∧ x = nI v := by
  obtain ⟨j, h1, h2⟩ := zn_of (by decide) h.1 h.2
  exact ⟨j, by omega, h2⟩
theorem zn_b5 {v n : Nat} (h : v ≤ n) (hn : n < 2 ^ 31) : nI 0 ≤ nI v ∧ nI v ≤ nI n := ⟨nI_le (by omega) (by omega), nI_le h hn⟩
theorem zs_good {S : Nat → Nat → Nat} (hf : S 0 0 < 32) {d : za_h} {m : Nat} {x : Int32} : zf_Mo_good m x (zr d m S) = some (nI (zo_good (S 0 0) x).toNat, zr d m S) := by
  unfold zf_Mo_good zf_Mo_good_24 zf_Mo_good_25
  simp only [zs_in, Option.bind_some, zr_i0, z010, z011, if_true]
  by_cases h : nI 0 ≤ x ∧ x ≤ nI 4
  · obtain ⟨v, hv, rfl⟩ := zn_5 h
    rw [decide_eq_true h, if_neg (by decide), zn_bit (by omega) (by omega)]
    cases hb : (S 0 0).testBit v
    · rw [if_pos (by decide), zo_good_i hv hb]; rfl
    · rw [if_neg (by decide)]
      have : zo_good (S 0 0) (nI v) = false := by
        cases hg : zo_good (S 0 0) (nI v) with
        | false => rfl
        | true =>
          obtain ⟨w, h1, h2, h3⟩ := zo_good_t hg
          rw [← (nI_eq (by omega) (by omega)).mp h2, hb] at h3
          cases h3
      rw [this]; rfl
  · rw [decide_eq_false h, if_pos (by decide)]
    have : zo_good (S 0 0) x = false := by
      cases hg : zo_good (S 0 0) x with
      | false => rfl
      | true =>
        obtain ⟨w, h1, h2, h3⟩ := zo_good_t hg
        exact absurd (by rw [h2]; exact zn_b5 (by omega) (by decide)) h
    rw [this]; rfl
/-- the state's numbers are sound: T bounds the rounds -/
def zi (T : Nat) (S : Nat → Nat → Nat) : Prop := S 0 0 < 32 ∧ S 1 0 < 2 ∧ S 16 0 ≤ 120 ∧ zs_Tb S ∧ (∀ p, p < 32 → S 6 p = (zq_quo (zs_P S) p).toNat) ∧ (∀ i, i < 135 → S 12 i < 2 ^ 28) ∧ (∀ i, i < 150 → S 13 i < 2 ^ 28)
  ∧ (∀ v, v < 5 → S 7 v ≤ 3 ∧ S 8 v ≤ T ∧ S 9 v < 32 ∧ S 10 v ≤ 4 ∧ S 11 v ≤ 7) ∧ (∀ k, k < S 16 0 → S 17 k < 5 ∧ S 18 k < 3) ∧ (∀ i, i < 720 → S 19 i < 2 ^ 28) ∧ zi_tx S ∧ (∀ v, v < 5 → zl_B (zv_get S v)) ∧ (∀ i, i < 15 → S 14 i < 8)
  ∧ (∀ v, v < 5 → ∀ i, 27 * v + 9 * S 7 v + 9 ≤ i → i < 27 * v + 27 → S 12 i = 0) ∧ (∀ v, v < 5 → (S 0 0).testBit v = true → S 7 v = 0) ∧ (∀ v, v < 5 → S 7 v < 3 → S 12 (27 * v + 9 * S 7 v + 8) = 0)
theorem zi_B {T : Nat} {S : Nat → Nat → Nat} (h : zi T S) {v : Nat} (hv : v < 5) (hs : S 7 v < 3) : zq_B (zw_get S v) := by
  obtain ⟨-, -, -, -, -, h12, h13, hn, -⟩ := h
  obtain ⟨n1, n2, n3, n4, n5⟩ := hn v hv
  refine ⟨fun j hj => ?_, fun j hj => ?_, n3, n4, n5⟩
  · exact h12 _ (by omega)
  · exact h13 _ (by omega)
theorem zi_c {T : Nat} {S : Nat → Nat → Nat} (h : zi T S) {v : Nat} (hv : v < 5) (hs : S 7 v < 3) : zcl S v :=
  ⟨⟨hv, hs, h.2.2.2.1, h.2.2.2.2.1⟩, h.2.2.2.2.2.2.2.2.2.2.1, h.2.2.2.2.2.2.2.2.2.2.2.1 v hv⟩
theorem zcl_begun {S : Nat → Nat → Nat} {v x : Nat} (h : zcl S v) : zcl (u2 S 1 0 x) v := by
  obtain ⟨⟨h1, h2, h3, h4⟩, h5, h6⟩ := h
  have r : ∀ k, k ≠ 1 → u2 S 1 0 x k = S k := fun k hk => u2_row hk
  have hP : zs_P (u2 S 1 0 x) = zs_P S := by funext a b; unfold zs_P; rw [r 2 (by decide), r 3 (by decide), r 4 (by decide), r 5 (by decide)]
  refine ⟨⟨h1, by rw [r 7 (by decide)]; exact h2, ?_, ?_⟩, ?_, ?_⟩
  · intro w hw; rw [r 2 (by decide), r 3 (by decide), r 4 (by decide), r 5 (by decide)]; exact h3 w hw
  · intro p hp; rw [r 6 (by decide), hP]; exact h4 p hp
  · intro k hk
    have := h5 k hk
    unfold zb_tx at this ⊢
    rw [r 20 (by decide), r 21 (by decide), r 22 (by decide), r 23 (by decide), r 24 (by decide), r 25 (by decide)]
    exact this
  · have : zv_get (u2 S 1 0 x) v = zv_get S v := by
      funext j i; unfold zv_get
      rw [r 26 (by decide), r 27 (by decide), r (27 + j) (by omega)]
    rw [this]; exact h6
theorem zs_P_begun {S : Nat → Nat → Nat} {x : Nat} : zs_P (u2 S 1 0 x) = zs_P S := by
  funext a b; unfold zs_P
  rw [u2_k (by decide), u2_k (by decide), u2_k (by decide), u2_k (by decide)]
def zo_pq (S : Nat → Nat → Nat) (v y : Nat) : zq_Q := if S 8 v = 0 then zq_nr (zq_cand S v) (S 7 v) (u2 (zw_get S v) 2 3 y) else u2 (zw_get S v) 2 3 y
def zo_tq (S : Nat → Nat → Nat) (v : Nat) : zq_Q := if zq_comp (zw_get S v) = 0 then zq_nr (zq_cand S v) (S 7 v) (zw_get S v) else if S 10 v < 4 then zq_vp (u2 (zw_get S v) 2 2 (S 10 v + 1)) else zw_get S v
def zo_stir (S : Nat → Nat → Nat) (v : Nat) (Q : zq_Q) : Nat → Nat → Nat := zs_res S v (zq_stir (zs_P S) v 1000 Q)
def zo_propose (S : Nat → Nat → Nat) (x y : Int32) : Int32 × (Nat → Nat → Nat) :=
  if zo_good (S 0 0) x = true ∧ (nI 1 ≤ y ∧ y ≤ nI 7) ∧ S 7 x.toNatClampNeg ≠ 3 ∧ S 11 x.toNatClampNeg = 0 then (nI 1, zo_stir (u2 S 1 0 1) x.toNatClampNeg (zo_pq S x.toNatClampNeg y.toNatClampNeg)) else (nI 0, S)
def zo_timeout (S : Nat → Nat → Nat) (x : Int32) : Int32 × (Nat → Nat → Nat) :=
  if zo_good (S 0 0) x = true ∧ S 7 x.toNatClampNeg ≠ 3 ∧ S 8 x.toNatClampNeg ≠ 0 then (nI 1, zo_stir (u2 S 1 0 1) x.toNatClampNeg (zo_tq S x.toNatClampNeg)) else (nI 0, S)
theorem zq_B_u23 {Q : zq_Q} (hB : zq_B Q) {y : Nat} (hy : y ≤ 7) : zq_B (u2 Q 2 3 y) := ⟨fun j hj => by rw [u2_k (by decide)]; exact hB.1 j hj, fun j hj => by rw [u2_k (by decide)]; exact hB.2.1 j hj, by rw [u2_i (by decide)]; exact hB.2.2.1, by rw [u2_i (by decide)]; exact hB.2.2.2.1, by rw [u2_s]; exact hy⟩
theorem zq_B_u22 {Q : zq_Q} (hB : zq_B Q) {y : Nat} (hy : y ≤ 4) : zq_B (u2 Q 2 2 y) := ⟨fun j hj => by rw [u2_k (by decide)]; exact hB.1 j hj, fun j hj => by rw [u2_k (by decide)]; exact hB.2.1 j hj, by rw [u2_i (by decide)]; exact hB.2.2.1, by rw [u2_s]; exact hy, by rw [u2_i (by decide)]; exact hB.2.2.2.2⟩
theorem zq_cand_begun {S : Nat → Nat → Nat} {v x : Nat} : zq_cand (u2 S 1 0 x) v = zq_cand S v := by
  unfold zq_cand; rw [u2_k (by decide), u2_k (by decide), u2_k (by decide)]
theorem zq_comp_u2 {Q : zq_Q} {j x : Nat} : zq_comp (u2 Q 2 j x) = zq_comp Q := by
  have : ∀ b, zq_has (u2 Q 2 j x) 0 2 b = zq_has Q 0 2 b := fun b => by unfold zq_has; rw [u2_k (by decide)]
  unfold zq_comp
  simp only [this]
section RO
variable {S : Nat → Nat → Nat} {d : za_h} {m T : Nat}
theorem zs_propose (hI : zi T S) (hT : T ≤ 1900) (x y : Int32) : zf_Mo_propose m x y (zr d m S) = some ((zo_propose S x y).1, zr d m (zo_propose S x y).2) := by
  unfold zf_Mo_propose zf_Mo_propose_37 zf_Mo_propose_65 zo_propose
  simp only [zr_gc, Option.bind_some, zs_good hI.1]
  cases hg : zo_good (S 0 0) x
  · rw [if_pos (by decide), if_neg (by simp)]
  · obtain ⟨v, hv, rfl, hfv⟩ := zo_good_t hg
    obtain ⟨n1, n2, n3, n4, n5⟩ := hI.2.2.2.2.2.2.2.1 v hv
    rw [if_neg (by decide), nI_clamp (show v < 2 ^ 31 by omega)]
    simp only [zs_in, Option.bind_some]
    by_cases hy : nI 1 ≤ y ∧ y ≤ nI 7
    · rw [decide_eq_true hy, if_neg (by decide)]
      obtain ⟨w, hw, rfl⟩ : ∃ w, w ≤ 7 ∧ y = nI w := zn_of (by decide) (Int32.le_trans (by decide) hy.1) hy.2
      rw [nI_clamp (show w < 2 ^ 31 by omega)]
      simp only [zr_g7, zr_g11, Option.bind_some, zr_l7 hv, zr_l11 hv, nI_eq (show S 7 v < 2 ^ 31 by omega) (show 3 < 2 ^ 31 by decide), zn_le0 (show S 11 v < 2 ^ 31 by omega)]
      by_cases h3 : S 7 v = 3
      · rw [if_pos h3, if_neg (by omega)]
      · rw [if_neg h3]
        by_cases h11 : S 11 v = 0
        · rw [if_pos h11, if_pos ⟨trivial, hy, h3, h11⟩]
          have hs : S 7 v < 3 := by omega
          have hC := zcl_begun (x := 1) (zi_c hI hv hs)
          have hB := zi_B hI hv hs
          have hB1 := zq_B_u23 hB hw
          have e1 : u2 S 1 0 1 = zw (u2 S 1 0 1) v (zw_get S v) := by rw [← zw_begun, zw_id]
          have e8 : zw_get S v 2 0 = S 8 v := rfl
          have u11 : u2 (zw (u2 S 1 0 1) v (zw_get S v)) 11 v w = zw (u2 S 1 0 1) v (u2 (zw_get S v) 2 3 w) := zw_u2 (k := 3) (by decide)
          have r8 : zw (u2 S 1 0 1) v (u2 (zw_get S v) 2 3 w) 8 v = S 8 v := by
            have := zw_2 (S := u2 S 1 0 1) (v := v) (k := 0) (Q := u2 (zw_get S v) 2 3 w) (by decide)
            rw [u2_i (by decide)] at this
            exact this
          simp only [zr_p1, Option.bind_some, zr_g11]
          have E : zr d m (u2 S 1 0 1) = zr d m (zw (u2 S 1 0 1) v (zw_get S v)) := by rw [← e1]
          rw [E, zr_s11 hv, u11]
          simp only [Option.bind_some, zr_g8, zr_l8 hv, r8, zn_eq0 (show S 8 v < 2 ^ 31 by omega), zr_gc]
          unfold zo_stir zo_pq
          rw [zs_P_begun]
          by_cases h8 : S 8 v = 0
          · rw [if_pos h8, if_pos h8, zs_newRound hC.1 hB1 (by rw [u2_i (by decide), e8]; omega), zq_cand_begun, u2_k (show (7 : Nat) ≠ 1 by decide)]
            simp only [Option.bind_some, zr_gc]
            rw [zs_stir hC (zq_nr_B hv zq_cand_tb hB1), zs_P_begun]
            rfl
          · rw [if_neg h8, if_neg h8, zs_stir hC hB1, zs_P_begun]
            rfl
        · rw [if_neg h11, if_neg (by omega)]
    · rw [decide_eq_false hy, if_pos (by decide), if_neg (fun h => hy h.2.1)]
theorem zs_timeout (hI : zi T S) (hT : T ≤ 1900) (x : Int32) : zf_Mo_timeout m x (zr d m S) = some ((zo_timeout S x).1, zr d m (zo_timeout S x).2) := by
  unfold zf_Mo_timeout zf_Mo_timeout_27 zf_Mo_timeout_76 zo_timeout
  simp only [zr_gc, Option.bind_some, zs_good hI.1]
  cases hg : zo_good (S 0 0) x
  · rw [if_pos (by decide), if_neg (by simp)]
  · obtain ⟨v, hv, rfl, hfv⟩ := zo_good_t hg
    obtain ⟨n1, n2, n3, n4, n5⟩ := hI.2.2.2.2.2.2.2.1 v hv
    rw [if_neg (by decide), nI_clamp (show v < 2 ^ 31 by omega)]
    simp only [zr_g7, zr_g8, Option.bind_some, zr_l7 hv, zr_l8 hv, nI_eq (show S 7 v < 2 ^ 31 by omega) (show 3 < 2 ^ 31 by decide), zn_eq0 (show S 8 v < 2 ^ 31 by omega)]
    by_cases h3 : S 7 v = 3
    · rw [if_pos h3, if_neg (by omega)]
    · rw [if_neg h3]
      by_cases h8 : S 8 v = 0
      · rw [if_pos h8, if_neg (by omega)]
      · rw [if_neg h8, if_pos ⟨trivial, h3, h8⟩]
        have hs : S 7 v < 3 := by omega
        have hC := zcl_begun (x := 1) (zi_c hI hv hs)
        have hB := zi_B hI hv hs
        have e1 : u2 S 1 0 1 = zw (u2 S 1 0 1) v (zw_get S v) := by rw [← zw_begun, zw_id]
        have e8 : zw_get S v 2 0 = S 8 v := rfl
        have r10 : zw (u2 S 1 0 1) v (zw_get S v) 10 v = S 10 v := zw_2 (S := u2 S 1 0 1) (v := v) (k := 2) (Q := zw_get S v) (by decide)
        have u10 : u2 (zw (u2 S 1 0 1) v (zw_get S v)) 10 v (S 10 v + 1) = zw (u2 S 1 0 1) v (u2 (zw_get S v) 2 2 (S 10 v + 1)) := zw_u2 (k := 2) (by decide)
        have hcl := zq_comp_lt (zw_get S v)
        simp only [zr_p1, Option.bind_some]
        unfold zo_stir zo_tq
        rw [zs_P_begun]
        have E : zr d m (u2 S 1 0 1) = zr d m (zw (u2 S 1 0 1) v (zw_get S v)) := by rw [← e1]
        rw [E, zs_comp hC.1 hB]
        simp only [Option.bind_some, zr_gc, zn_eq0 (show zq_comp (zw_get S v) < 2 ^ 31 by omega), zr_g10, zr_l10 hv, r10]
        by_cases hc0 : zq_comp (zw_get S v) = 0
        · rw [if_pos hc0, if_pos hc0, zs_newRound hC.1 hB (by rw [e8]; omega), zq_cand_begun, u2_k (show (7 : Nat) ≠ 1 by decide)]
          simp only [Option.bind_some, zr_gc]
          rw [zs_stir hC (zq_nr_B hv zq_cand_tb hB), zs_P_begun]
          rfl
        · rw [if_neg hc0, if_neg hc0]
          by_cases h4 : 4 ≤ S 10 v
          · rw [if_pos (nI_le h4 (by omega)), if_neg (by omega), zs_stir hC hB, zs_P_begun]
            rfl
          · rw [if_neg (nI_ge (by omega) (by omega)), if_pos (by omega), nI_add, zr_s10 hv, u10]
            have hB2 := zq_B_u22 hB (y := S 10 v + 1) (by omega)
            obtain ⟨r, hr⟩ := zs_votePrepare (m := m) (d := d) hC.1 hB2 (by rw [u2_s]; omega) (by rw [zq_comp_u2]; exact hc0)
            simp only [Option.bind_some, zr_gc, hr]
            have hvB : zq_B (zq_vp (u2 (zw_get S v) 2 2 (S 10 v + 1))) := by
              have ht := zq_toP_b (Q := u2 (zw_get S v) 2 2 (S 10 v + 1)) (by rw [zq_comp_u2]; exact hc0)
              refine zq_vote_B hB2 (by decide) ?_
              rw [u2_s]; omega
            rw [zs_stir hC hvB, zs_P_begun]
            rfl
end RO
