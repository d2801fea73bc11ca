/-! The start: class and reference represent the same state. -/
def zS1 (fa : Nat) : Nat → Nat → Nat := zs_tab (zSi fa 5 40) 32
section ZST
variable {d : za_h} {x fa : Nat}
theorem zS1_o {k i : Nat} (h : k ≠ 6) : zS1 fa k i = zSi fa 5 40 k i := by
  unfold zS1 zs_tab; rw [if_neg (by omega)]
theorem zS1_z {k i : Nat} (h : k ≠ 0 ∧ k ≠ 2 ∧ k ≠ 3 ∧ k ≠ 6 ∧ k ≠ 26) : zS1 fa k i = 0 := by
  rw [zS1_o (by omega)]
  unfold zSi
  rw [if_neg (by omega), if_neg (by omega), if_neg (by omega), if_neg (by omega)]
theorem zS1_0 : zS1 fa 0 0 = fa := by rw [zS1_o (by decide)]; unfold zSi; rw [if_pos ⟨rfl, rfl⟩]
theorem zS1_2 {v : Nat} (hv : v < 5) : zS1 fa 2 v = 4 := by rw [zS1_o (by decide)]; unfold zSi; rw [if_neg (by omega), if_pos ⟨rfl, hv⟩]
theorem zS1_3 {v : Nat} (hv : v < 5) : zS1 fa 3 v = 31 := by rw [zS1_o (by decide)]; unfold zSi; rw [if_neg (by omega), if_neg (by omega), if_pos ⟨rfl, hv⟩]
theorem zS1_26 {i : Nat} (hi : i < 40) : zS1 fa 26 i = if i % 2 = 0 then 100 else 20 := by
  rw [zS1_o (by decide)]; unfold zSi; rw [if_neg (show ¬ (26 = 0 ∧ i = 0) by omega), if_neg (show ¬ (26 = 2 ∧ i < 5) by omega), if_neg (show ¬ (26 = 3 ∧ i < 5) by omega), if_pos ⟨rfl, hi⟩]
theorem zS1_v {v : Nat} (hv : v < 5) : (∀ j, j < 4 → zv_get (zS1 fa) v 0 (2 * j) = 100 ∧ zv_get (zS1 fa) v 0 (2 * j + 1) = 20) ∧ zv_get (zS1 fa) v 5 0 = 0 := by
  refine ⟨fun j hj => ?_, ?_⟩
  · unfold zv_get
    rw [if_pos rfl, if_pos rfl, zS1_26 (by omega), zS1_26 (by omega), if_pos (by omega), if_neg (by omega)]
    exact ⟨rfl, rfl⟩
  · unfold zv_get
    rw [if_neg (by decide), if_pos rfl, zS1_z (by decide)]
theorem zi_0 (hfa : fa < 32) : zi 0 (zS1 fa) ∧ zj (zS1 fa) := by
  have z : ∀ k i, (k ≠ 0 ∧ k ≠ 2 ∧ k ≠ 3 ∧ k ≠ 6 ∧ k ≠ 26) → zS1 fa k i = 0 := fun k i h => zS1_z h
  refine ⟨⟨by rw [zS1_0]; exact hfa, by rw [z 1 0 (by decide)]; decide, by rw [z 16 0 (by decide)]; decide, fun v hv => ?_, fun p hp => ?_, fun i _ => by rw [z 12 i (by decide)]; decide, fun i _ => by rw [z 13 i (by decide)]; decide, fun v hv => ?_, fun k hk => ?_, fun i _ => by rw [z 19 i (by decide)]; decide, fun k hk => ?_, fun v hv => ?_, fun i _ => by rw [z 14 i (by decide)]; decide, fun v hv i _ _ => z 12 i (by decide), fun v hv _ => z 7 v (by decide), fun v hv _ => z 12 _ (by decide)⟩, fun v s hv hs _ => z 14 _ (by decide)⟩
  · rw [zS1_2 hv, zS1_3 hv, z 4 v (by decide), z 5 v (by decide)]; decide
  · have : zs_P (zS1 fa) = zs_P (zSi fa 5 40) := zs_P_r (fun k a b => by funext i; exact zS1_o (by omega))
    rw [this]
    unfold zS1 zs_tab
    rw [if_pos ⟨rfl, hp⟩]
  · rw [z 7 v (by decide), z 8 v (by decide), z 9 v (by decide), z 10 v (by decide), z 11 v (by decide)]; decide
  · rw [z 16 0 (by decide)] at hk; omega
  · rw [z 20 k (by decide)]
    exact ⟨by decide, fun h => by omega⟩
  · obtain ⟨h1, h2⟩ := zS1_v (fa := fa) hv
    obtain ⟨a0, b0⟩ := h1 0 (by decide)
    obtain ⟨a1, b1⟩ := h1 1 (by decide)
    obtain ⟨a2, b2⟩ := h1 2 (by decide)
    obtain ⟨a3, b3⟩ := h1 3 (by decide)
    have a0 : zv_get (zS1 fa) v 0 0 = 100 := a0
    have a1 : zv_get (zS1 fa) v 0 2 = 100 := a1
    have a2 : zv_get (zS1 fa) v 0 4 = 100 := a2
    have a3 : zv_get (zS1 fa) v 0 6 = 100 := a3
    have b0 : zv_get (zS1 fa) v 0 1 = 20 := b0
    have b1 : zv_get (zS1 fa) v 0 3 = 20 := b1
    have b2 : zv_get (zS1 fa) v 0 5 = 20 := b2
    have b3 : zv_get (zS1 fa) v 0 7 = 20 := b3
    refine ⟨by rw [a0, a1, a2, a3]; decide, by rw [b0, b1, b2, b3]; decide, by rw [h2]; decide, fun k hk => by rw [h2] at hk; omega⟩
theorem yR_0 (hd : x + 221 ≤ d.2) : yR d x (yT0 fa) yU0 (zS1 fa) := by
  have z : ∀ k i, (k ≠ 0 ∧ k ≠ 2 ∧ k ≠ 3 ∧ k ≠ 6 ∧ k ≠ 26) → zS1 fa k i = 0 := fun k i h => zS1_z h
  have t : ∀ v w j, w < 36 → w ≠ 33 → w ≠ 34 → yT0 fa (9 + 36 * v + w) j = 0 := by
    intro v w j h1 h2 h3
    rw [yT0_n h1]
    unfold yTn
    rw [if_neg h2, if_neg h3]
  have tA : ∀ v s j, s < 3 → yT0 fa (qA v s) j = 0 := fun v s j hs => by
    rw [show qA v s = 9 + 36 * v + (2 + 10 * s) by unfold qA; omega]; exact t v _ j (by omega) (by omega) (by omega)
  have tS : ∀ v s k c j, s < 3 → k < 3 → c < 3 → yT0 fa (qS v s k + c) j = 0 := fun v s k c j hs hk hc => by
    rw [show qS v s k + c = 9 + 36 * v + (3 + 10 * s + 3 * k + c) by unfold qS; omega]; exact t v _ j (by omega) (by omega) (by omega)
  have tS0 : ∀ v s k j, s < 3 → k < 3 → yT0 fa (qS v s k) j = 0 := fun v s k j hs hk => tS v s k 0 j hs hk (by decide)
  have tN : ∀ v j, yT0 fa (qN v) j = 0 := fun v j => by
    rw [show qN v = 9 + 36 * v + 0 from rfl]; exact t v 0 j (by omega) (by omega) (by omega)
  have t0 : ∀ j, yT0 fa 0 j = if j = 0 then fa else 0 := fun j => by unfold yT0; rw [if_pos rfl]
  have t3 : ∀ v j, v < 5 → yT0 fa (3 + v) j = if j = 0 then 4 else if j = 1 then 31 else 0 := fun v j hv => by
    unfold yT0; rw [if_neg (show ¬ (3 + v = 0) by omega), if_neg (show ¬ (3 + v < 3) by omega), if_pos (show 3 + v < 8 by omega)]
  have zq : ∀ v s c j, c = 1 ∨ (c = 2 ∧ j < 4) → yRq (zS1 fa) v s c j = 0 := by
    intro v s c j hc
    unfold yRq
    split
    · unfold zw_get
      rcases hc with rfl | ⟨rfl, hj⟩
      · rw [if_neg (by decide), if_pos rfl, z 13 _ (by decide)]
      · rw [if_neg (by decide), if_neg (by decide), z (8 + j) v (by omega)]
    · rfl
  refine ⟨⟨by rw [t0, if_pos rfl, zS1_0], by rw [t0, if_neg (by decide), z 16 0 (by decide)], by rw [t0, if_neg (by decide), z 1 0 (by decide)], fun v hv => ?_, fun v hv => by rw [tN, tN, z 7 v (by decide), z 15 v (by decide)]; exact ⟨rfl, rfl⟩⟩, fun v s hv hs => ⟨by rw [tA v s 10 hs, z 14 _ (by decide)], fun k hk => ?_⟩, fun v s hv hs _ => ⟨by rw [tA v s 6 hs, zq v s 2 3 (Or.inr ⟨rfl, by decide⟩)], fun j hj => by rw [tA v s _ hs, zq v s 2 j (Or.inr ⟨rfl, by omega⟩)], fun k j hk hj _ => by rw [tS v s k 1 j hs hk (by decide), tS v s k 2 j hs hk (by decide), zq v s 1 _ (Or.inl rfl), zq v s 1 _ (Or.inl rfl)]; exact ⟨rfl, rfl⟩⟩, fun v hv => ⟨?_, ?_⟩, fun v w i j a _ _ _ _ h _ => (by cases h), fun k hk => ⟨fun h => (by rw [z 20 k (by decide)] at h; cases h), fun _ => rfl⟩, fun k hk => ⟨fun h => by rw [z 16 0 (by decide)] at h; omega, fun _ => rfl⟩, hd⟩
  · rw [t3 v 0 hv, t3 v 1 hv, t3 v 2 hv, t3 v 3 hv, zS1_2 hv, zS1_3 hv, z 4 v (by decide)]; exact ⟨rfl, rfl, rfl, rfl⟩
  · rw [tS0 v s k 2 hs hk, tS0 v s k 3 hs hk, tS v s k 2 v hs hk (by decide), tS v s k 1 v hs hk (by decide), z 12 _ (by decide), z 12 _ (by decide), z 12 _ (by decide)]; exact ⟨rfl, rfl, rfl, rfl⟩
  · obtain ⟨h1, h2⟩ := zS1_v (fa := fa) hv
    funext q j
    have eL : ∀ c, qL v + c = 9 + 36 * v + (32 + c) := fun c => by unfold qL; omega
    unfold zk
    by_cases c1 : q = qL v ∧ j = 3
    · rw [if_pos c1, c1.1, h2, show qL v = 9 + 36 * v + 32 from eL 0, t v 32 j (by omega) (by omega) (by omega)]
    · rw [if_neg c1]
      by_cases c2 : q = qL v + 1 ∧ j < 4
      · rw [if_pos c2, (h1 j c2.2).1, c2.1, eL 1, yT0_n (by decide)]
        unfold yTn
        rw [if_pos rfl, if_pos c2.2]
      · rw [if_neg c2]
        by_cases c3 : q = qL v + 2 ∧ j < 4
        · rw [if_pos c3, (h1 j c3.2).2, c3.1, eL 2, yT0_n (by decide)]
          unfold yTn
          rw [if_neg (by decide), if_pos rfl, if_pos c3.2]
        · rw [if_neg c3]
  · obtain ⟨h1, h2⟩ := zS1_v (fa := fa) hv
    exact ⟨fun k hk => by rw [h2] at hk; omega, fun _ _ _ => rfl, fun i j a _ _ h _ => by cases h⟩
theorem zcell (L : Nat) (xs : Nat → Int32) (hL : L < 2 ^ 31) : ∃ r, ∀ σ, zf_Law_cell L xs (nI 0) σ = some (r, σ) := by
  unfold zf_Law_cell zf_Law_cell_13 zs_ld
  by_cases h : L = 0
  · exact ⟨nI 0, fun σ => by rw [if_pos (by rw [h]; exact Int32.le_refl _)]⟩
  · refine ⟨xs 0, fun σ => ?_⟩
    rw [if_neg (nI_ge (by omega) hL), if_pos (by
      intro h'
      rcases h' with h' | h'
      · exact nI_pos (by omega) h'
      · rw [nI_clamp (by omega)] at h'; omega), zbs, nI_clamp (by omega)]
theorem zp_main (L : Nat) (xs : Nat → Int32) (n0 : Nat) (hL : L ≤ 4097) : ∃ σ', zf_Law_law L xs (fun _ => none, n0) = some (nI 1, σ') := by
  obtain ⟨r, hr⟩ := zcell L xs (by omega)
  have hy : r &&& nI 31 = nI (r.toBitVec.toNat &&& 31) := by rw [← zn_and, ← zn_un]
  have hfa : r.toBitVec.toNat &&& 31 < 32 := Nat.lt_of_le_of_lt Nat.and_le_right (by decide)
  generalize r.toBitVec.toNat &&& 31 = fa at hy hfa
  unfold zf_Law_law
  rw [hr, zbs]
  dsimp only
  rw [mk_TL hy, zbs, cF_zx]
  dsimp only
  rw [hr, zbs]
  dsimp only
  have hτ : ∀ a, (zx (fun _ => none, n0 + 191) n0 (yT0 fa) yU0).2 ≤ a → (zx (fun _ => none, n0 + 191) n0 (yT0 fa) yU0).1 a = none := fun a h => zx_out (Or.inr h)
  rw [mk_Mo hτ hy hfa, zbs]
  dsimp only
  have e : zr ((zx (fun _ => none, n0 + 191) n0 (yT0 fa) yU0).1, (zx (fun _ => none, n0 + 191) n0 (yT0 fa) yU0).2 + 30) (zx (fun _ => none, n0 + 191) n0 (yT0 fa) yU0).2 (zs_tab (zSi fa 5 40) 32) = zx (zr (fun _ => none, n0 + 221) (n0 + 191) (zS1 fa)) n0 (yT0 fa) yU0 := by
    rw [zrx rfl]
    rfl
  rw [e]
  obtain ⟨h1, h2⟩ := zi_0 hfa
  exact zlaw28 hL rfl 512 0 513 _ _ _ _ (by decide) (by decide) h1 h2 (yR_0 (by show n0 + 221 ≤ n0 + 221; omega)) zr_zr
end ZST
