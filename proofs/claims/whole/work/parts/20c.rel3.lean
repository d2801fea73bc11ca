/-! The relation is kept: a slot closes. -/
section YRX
variable {d : za_h} {x v : Nat} {T : Nat → Nat → Nat} {U : Nat → Nat → Option Nat} {S : Nat → Nat → Nat} {w : Nat}
theorem yB_ext {u : Nat → Option Nat} {L L' : zq_Q} (h8 : L 5 0 ≤ 8) (h5 : L' 5 0 = L 5 0) (h : ∀ j k, 1 ≤ j → j ≤ 4 → k < 8 → L' j k = L j k) (hY : yB d x u L) : yB d x u L' := by
  refine ⟨fun k hk => ?_, fun k hk hk8 => ?_, hY.2.2⟩
  · rw [h5] at hk
    rw [h 1 k (by decide) (by decide) (by omega), h 2 k (by decide) (by decide) (by omega), h 3 k (by decide) (by decide) (by omega), h 4 k (by decide) (by decide) (by omega)]
    exact hY.1 k hk
  · rw [h5] at hk; exact hY.2.1 k hk hk8
theorem ze_row {k i : Nat} (h : k < 7 ∨ k = 12 ∨ (15 < k ∧ k < 26)) : zs_ext S v w k i = S k i := by
  unfold zs_ext
  rw [if_neg (by omega), if_neg (by omega), if_neg (by omega), if_neg (by omega), if_neg (by omega), zv_row (by omega)]
theorem ze_r {k : Nat} (h : k < 7 ∨ k = 12 ∨ (15 < k ∧ k < 26)) : zs_ext S v w k = S k := funext fun _ => ze_row h
theorem ze_7 : zs_ext S v w 7 v = S 7 v + 1 := by
  unfold zs_ext; rw [if_neg (by omega), if_neg (by omega), if_pos ⟨rfl, rfl⟩]
theorem ze_7o {y : Nat} (h : y ≠ v) : zs_ext S v w 7 y = S 7 y := by
  unfold zs_ext; rw [if_neg (by omega), if_neg (by omega), if_neg (by omega), if_neg (by omega), if_neg (by omega), zv_row (by omega)]
theorem ze_15 : zs_ext S v w 15 v = 31 * (31 * S 15 v + S 7 v) + w := by
  unfold zs_ext; rw [if_neg (by omega), if_pos ⟨rfl, rfl⟩]
theorem ze_15o {y : Nat} (h : y ≠ v) : zs_ext S v w 15 y = S 15 y := by
  unfold zs_ext; rw [if_neg (by omega), if_neg (by omega), if_neg (by omega), if_neg (by omega), if_neg (by omega), zv_row (by omega)]
theorem ze_14 : zs_ext S v w 14 (3 * v + S 7 v) = w := by
  unfold zs_ext; rw [if_pos ⟨rfl, rfl⟩]
theorem ze_14o {i : Nat} (h : i ≠ 3 * v + S 7 v) : zs_ext S v w 14 i = S 14 i := by
  unfold zs_ext; rw [if_neg (by omega), if_neg (by omega), if_neg (by omega), if_neg (by omega), if_neg (by omega), zv_row (by omega)]
theorem ze_8 {k : Nat} (h1 : 8 ≤ k) (h2 : k < 12) : zs_ext S v w k v = 0 := by
  unfold zs_ext; rw [if_neg (by omega), if_neg (by omega), if_neg (by omega), if_pos ⟨h1, h2, rfl⟩]
theorem ze_8o {k y : Nat} (h1 : 8 ≤ k) (h2 : k < 12) (h : y ≠ v) : zs_ext S v w k y = S k y := by
  unfold zs_ext; rw [if_neg (by omega), if_neg (by omega), if_neg (by omega), if_neg (by omega), if_neg (by omega), zv_row (by omega)]
theorem ze_13 {i : Nat} (h1 : 30 * v ≤ i) (h2 : i < 30 * v + 30) : zs_ext S v w 13 i = 0 := by
  unfold zs_ext; rw [if_neg (by omega), if_neg (by omega), if_neg (by omega), if_neg (by omega), if_pos ⟨rfl, h1, h2⟩]
theorem ze_13o {i : Nat} (h : i < 30 * v ∨ 30 * v + 30 ≤ i) : zs_ext S v w 13 i = S 13 i := by
  unfold zs_ext; rw [if_neg (by omega), if_neg (by omega), if_neg (by omega), if_neg (by omega), if_neg (by omega), zv_row (by omega)]
theorem ze_26 {k i : Nat} (h : 26 ≤ k) : zs_ext S v w k i = zv S v (zs_led S v w) k i := by
  unfold zs_ext; rw [if_neg (by omega), if_neg (by omega), if_neg (by omega), if_neg (by omega), if_neg (by omega)]
theorem ze_get {j i : Nat} (h0 : j = 0 → i < 8) (hj : j < 6) (h5 : j = 5 → i = 0) (h4 : 1 ≤ j → j ≤ 4 → i < 9) : zv_get (zs_ext S v w) v j i = zs_led S v w j i := by
  unfold zv_get
  by_cases c0 : j = 0
  · subst c0; rw [if_pos rfl, ze_26 (by decide), zv_26 (h0 rfl)]
  · rw [if_neg c0]
    by_cases c5 : j = 5
    · subst c5; rw [if_pos rfl, ze_26 (by decide), zv_27, h5 rfl]
    · rw [if_neg c5, ze_26 (by omega)]
      obtain ⟨c, rfl⟩ : ∃ c, j = 1 + c := ⟨j - 1, by omega⟩
      rw [show 27 + (1 + c) = 28 + c by omega, zv_b (by omega) (h4 (by omega) (by omega))]
theorem ze_geto {y j i : Nat} (hy : y ≠ v) (h0 : j = 0 → i < 8) (hj : j < 6) (h4 : 1 ≤ j → j ≤ 4 → i < 9) : zv_get (zs_ext S v w) y j i = zv_get S y j i := by
  unfold zv_get
  by_cases c0 : j = 0
  · have := h0 c0
    rw [if_pos c0, if_pos c0, ze_26 (by decide)]
    unfold zv; rw [if_neg (by omega), if_neg (by omega), if_neg (by omega)]
  · rw [if_neg c0, if_neg c0]
    by_cases c5 : j = 5
    · rw [if_pos c5, if_pos c5, ze_26 (by decide)]
      unfold zv; rw [if_neg (by omega), if_neg (by omega), if_neg (by omega)]
    · rw [if_neg c5, if_neg c5, ze_26 (by omega)]
      have := h4 (by omega) (by omega)
      unfold zv; rw [if_neg (by omega), if_neg (by omega), if_neg (by omega)]
/-- the class's registers after the closing -/
def yT (T : Nat → Nat → Nat) (v s w hd : Nat) (L : zq_Q) : Nat → Nat → Nat := u2 (u2 (zk (u2 T (qA v s) 10 w) v L) (qN v) 3 hd) (qN v) 2 (s + 1)
theorem yT_o {s hd q j : Nat} {L : zq_Q} (h1 : q ≠ qN v) (h2 : q < qL v ∨ qL v + 2 < q) (h3 : q ≠ qA v s ∨ j ≠ 10) : yT T v s w hd L q j = T q j := by
  unfold yT
  rw [u2_k h1, u2_k h1, zkl_o h2]
  rcases h3 with h | h
  · rw [u2_k h]
  · rw [u2_i h]
theorem yT_N2 {s hd : Nat} {L : zq_Q} : yT T v s w hd L (qN v) 2 = s + 1 := by unfold yT; rw [u2_s]
theorem yT_N3 {s hd : Nat} {L : zq_Q} : yT T v s w hd L (qN v) 3 = hd := by unfold yT; rw [u2_i (by decide), u2_s]
theorem yT_A {s hd : Nat} {L : zq_Q} (hs : s < 3) : yT T v s w hd L (qA v s) 10 = w := by
  have h1 : qA v s ≠ qN v := by unfold qA qN; omega
  unfold yT
  rw [u2_k h1, u2_k h1, zkl_o (by unfold qA qL; omega), u2_s]
theorem yT_L {s hd q j : Nat} {L : zq_Q} (hq : qL v ≤ q) (h2 : q ≤ qL v + 2) : yT T v s w hd L q j = zk (u2 T (qA v s) 10 w) v L q j := by
  have h1 : q ≠ qN v := by have := @qN_L v; omega
  unfold yT
  rw [u2_k h1, u2_k h1]
theorem zl_cell_ne {p q r w : Nat} {v s b c : Nat} : yen v s b c ≠ yof p q r w := by unfold yen yof; intro h; cases h
theorem yar_ne {p q r w : Nat} {f : Nat → Nat} : yar f ≠ yof p q r w := by unfold yar yof; intro h; cases h
theorem yR_ext (hR : yR d x T U S) (hv : v < 5) (hs : S 7 v < 3) (hLB : ∀ y, y < 5 → zl_B (zv_get S y)) {d' : za_h} {u' : Nat → Option Nat} (hY : yB d' x u' (zs_led S v w)) (h8 : zs_led S v w 5 0 ≤ 8) (hd' : d.2 ≤ d'.2) (hfr : ∀ b, b < d.2 → (∀ k, k < 8 → U (qL v + 3) k ≠ some b) → d'.1 b = d.1 b) (hsub : ∀ k b, k < 8 → u' k = some b → d.2 ≤ b ∨ ∃ k', k' < 8 ∧ U (qL v + 3) k' = some b) :
    yR d' x (yT T v (S 7 v) w (31 * (31 * S 15 v + S 7 v) + w) (zs_led S v w)) (uk U v u') (zs_ext S v w) := by
  obtain ⟨⟨g1, g2, g3, g4, g5⟩, hA, hBb, hL, hD, hT, hM, hd⟩ := hR
  have eN : qN v = 9 + 36 * v := rfl
  have eL : qL v = 41 + 36 * v := by unfold qL; omega
  have eA : qA v (S 7 v) = 11 + 36 * v + 10 * S 7 v := by unfold qA; omega
  refine ⟨⟨?_, ?_, ?_, fun y hy => ?_, fun y hy => ?_⟩, fun y s hy hs' => ?_, fun y s hy hs' hle => ?_, fun y hy => ?_, ?_, fun k hk => ?_, fun k hk => ?_, by omega⟩
  · rw [yT_o (by omega) (by omega) (Or.inl (by omega)), ze_row (by omega)]; exact g1
  · rw [yT_o (by omega) (by omega) (Or.inl (by omega)), ze_row (by omega)]; exact g2
  · rw [yT_o (by omega) (by omega) (Or.inl (by omega)), ze_row (by omega)]; exact g3
  · rw [yT_o (by omega) (by omega) (Or.inl (by omega)), yT_o (by omega) (by omega) (Or.inl (by omega)), yT_o (by omega) (by omega) (Or.inl (by omega)), yT_o (by omega) (by omega) (Or.inl (by omega)), ze_row (by omega), ze_row (by omega), ze_row (by omega), ze_row (by omega)]; exact g4 y hy
  · by_cases hyv : y = v
    · subst hyv
      rw [yT_N2, yT_N3, ze_7, ze_15]; exact ⟨rfl, rfl⟩
    · have e : qN y = 9 + 36 * y := rfl
      have h1 : qN y ≠ qN v := by omega
      have h2 : qN y < qL v ∨ qL v + 2 < qN y := by omega
      have h3 : qN y ≠ qA v (S 7 v) := by have := @qd_N v y (S 7 v) hs; omega
      rw [yT_o h1 h2 (Or.inl h3), yT_o h1 h2 (Or.inl h3), ze_7o hyv, ze_15o hyv]; exact g5 y hy
  · have hA' := hA y s hy hs'
    have e3 : qA y s = 11 + 36 * y + 10 * s := by unfold qA; omega
    have e4 : ∀ k, qS y s k = 12 + 36 * y + 10 * s + 3 * k := fun k => by unfold qS; omega
    have hq : ∀ q, 11 + 36 * y + 10 * s ≤ q → q < 21 + 36 * y + 10 * s → q ≠ qN v ∧ (q < qL v ∨ qL v + 2 < q) := by
      intro q h1 h2
      have a1 := @qd_N y v s hs'
      have a2 := fun q h => @qd_L y v s q hs' h
      refine ⟨by omega, ?_⟩
      by_cases hc : qL v ≤ q ∧ q ≤ qL v + 3
      · have := a2 q hc; omega
      · omega
    refine ⟨?_, fun k hk => ?_⟩
    · by_cases hc : y = v ∧ s = S 7 v
      · obtain ⟨rfl, rfl⟩ := hc
        rw [yT_A hs, ze_14]
      · have hne : qA y s ≠ qA v (S 7 v) := by
          intro h
          have h5 : 36 * y + 10 * s = 36 * v + 10 * S 7 v := by omega
          have : y = v := by omega
          subst this
          exact hc ⟨rfl, by omega⟩
        obtain ⟨q1, q2⟩ := hq (qA y s) (by omega) (by omega)
        have hni : 3 * y + s ≠ 3 * v + S 7 v := fun h => hc ⟨by omega, by omega⟩
        rw [yT_o q1 q2 (Or.inl hne), ze_14o hni]; exact hA'.1
    · have e5 := e4 k
      have o := fun c j (hc : c < 3) (hj : j ≠ 10) => yT_o (T := T) (w := w) (s := S 7 v) (hd := 31 * (31 * S 15 v + S 7 v) + w) (L := zs_led S v w) (hq (qS y s k + c) (by omega) (by omega)).1 (hq (qS y s k + c) (by omega) (by omega)).2 (Or.inr hj)
      have o0 : ∀ j, j ≠ 10 → yT T v (S 7 v) w (31 * (31 * S 15 v + S 7 v) + w) (zs_led S v w) (qS y s k) j = T (qS y s k) j := fun j hj => o 0 j (by decide) hj
      rw [o0 2 (by decide), o0 3 (by decide), o 1 y (by decide) (by omega), o 2 y (by decide) (by omega), ze_r (Or.inr (Or.inl rfl))]
      exact hA'.2 k hk
  · have e3 : qA y s = 11 + 36 * y + 10 * s := by unfold qA; omega
    have e4 : ∀ k, qS y s k = 12 + 36 * y + 10 * s + 3 * k := fun k => by unfold qS; omega
    have hq : ∀ q, 11 + 36 * y + 10 * s ≤ q → q < 21 + 36 * y + 10 * s → q ≠ qN v ∧ (q < qL v ∨ qL v + 2 < q) := by
      intro q h1 h2
      have a1 := @qd_N y v s hs'
      have a2 := fun q h => @qd_L y v s q hs' h
      refine ⟨by omega, ?_⟩
      by_cases hc : qL v ≤ q ∧ q ≤ qL v + 3
      · have := a2 q hc; omega
      · omega
    have oA := fun j (hj : j ≠ 10) => yT_o (T := T) (w := w) (s := S 7 v) (hd := 31 * (31 * S 15 v + S 7 v) + w) (L := zs_led S v w) (hq (qA y s) (by omega) (by omega)).1 (hq (qA y s) (by omega) (by omega)).2 (Or.inr hj)
    have oS := fun k c j (hk : k < 3) (hc : c < 3) (hj : j ≠ 10) => yT_o (T := T) (w := w) (s := S 7 v) (hd := 31 * (31 * S 15 v + S 7 v) + w) (L := zs_led S v w) (hq (qS y s k + c) (by have := e4 k; omega) (by have := e4 k; omega)).1 (hq (qS y s k + c) (by have := e4 k; omega) (by have := e4 k; omega)).2 (Or.inr hj)
    have main : S 7 y ≤ s ∧ ∀ c j, c = 1 ∨ c = 2 → (c = 1 → j < 30) → (c = 2 → j < 4) → yRq (zs_ext S v w) y s c j = yRq S y s c j := by
      by_cases hyv : y = v
      · subst hyv
        rw [ze_7] at hle
        refine ⟨by omega, fun c j hc h1 h2 => ?_⟩
        have e0 : yRq S y s c j = 0 := by unfold yRq; rw [if_neg (by omega)]
        rw [e0]
        unfold yRq
        split
        · unfold zw_get
          rcases hc with rfl | rfl
          · have := h1 rfl
            rw [if_neg (by decide), if_pos rfl, ze_13 (by omega) (by omega)]
          · have := h2 rfl
            rw [if_neg (by decide), if_neg (by decide), ze_8 (by omega) (by omega)]
        · rfl
      · rw [ze_7o hyv] at hle
        refine ⟨hle, fun c j hc h1 h2 => ?_⟩
        unfold yRq
        rw [ze_7o hyv]
        split
        · unfold zw_get
          rcases hc with rfl | rfl
          · have := h1 rfl
            rw [if_neg (by decide), if_pos rfl, if_neg (by decide), if_pos rfl, ze_13o (by omega)]
          · have := h2 rfl
            rw [if_neg (by decide), if_neg (by decide), if_neg (by decide), if_neg (by decide), ze_8o (by omega) (by omega) hyv]
        · rfl
    obtain ⟨m1, m2⟩ := main
    have hB' := hBb y s hy hs' m1
    refine ⟨by rw [oA 6 (by decide), m2 2 3 (Or.inr rfl) (fun h => by cases h) (fun _ => by decide)]; exact hB'.1, fun j hj => by rw [oA (7 + j) (by omega), m2 2 j (Or.inr rfl) (fun h => by cases h) (fun _ => by omega)]; exact hB'.2.1 j hj, fun k j hk hj hjv => ?_⟩
    rw [oS k 1 j hk (by decide) (by omega), oS k 2 j hk (by decide) (by omega), m2 1 _ (Or.inl rfl) (fun _ => by omega) (fun h => by cases h), m2 1 _ (Or.inl rfl) (fun _ => by omega) (fun h => by cases h)]
    exact hB'.2.2 k j hk hj hjv
  · -- ledgers
    by_cases hyv : y = v
    · subst hyv
      refine ⟨?_, ?_⟩
      · rw [zk_ext (L := zv_get (zs_ext S y w) y) (L' := zs_led S y w) (fun j hj => ze_get (fun _ => hj) (by decide) (fun h => by cases h) (fun h => by omega)) (ze_get (fun h => by cases h) (by decide) (fun _ => rfl) (fun _ h => by omega))]
        funext q j
        by_cases hq : qL y ≤ q ∧ q ≤ qL y + 2
        · rw [yT_L hq.1 hq.2]
          unfold zk
          by_cases c1 : q = qL y ∧ j = 3
          · rw [if_pos c1, if_pos c1]
          · rw [if_neg c1, if_neg c1]
            by_cases c2 : q = qL y + 1 ∧ j < 4
            · rw [if_pos c2, if_pos c2]
            · rw [if_neg c2, if_neg c2]
              by_cases c3 : q = qL y + 2 ∧ j < 4
              · rw [if_pos c3, if_pos c3]
              · rw [if_neg c3, if_neg c3, yT_L hq.1 hq.2]
                unfold zk
                rw [if_neg c1, if_neg c2, if_neg c3]
        · rw [zkl_o (by omega)]
      · have e : uk U y u' (qL y + 3) = u' := by unfold uk; rw [if_pos rfl]
        rw [e]
        exact yB_ext h8 (ze_get (fun h => by cases h) (by decide) (fun _ => rfl) (fun _ h => by omega)) (fun j k h1 h4 hk => ze_get (fun h => by omega) (by omega) (fun h => by omega) (fun _ _ => by omega)) hY
    · have e1 : qL y = 41 + 36 * y := by unfold qL; omega
      have hLy := hL y hy
      have hBy := hLB y hy
      refine ⟨?_, ?_⟩
      · rw [zk_ext (L := zv_get (zs_ext S v w) y) (L' := zv_get S y) (fun j hj => ze_geto hyv (fun _ => hj) (by decide) (fun h => by omega)) (ze_geto hyv (fun h => by cases h) (by decide) (fun _ h => by omega))]
        funext q j
        have hqT := congrFun (congrFun hLy.1 q) j
        have hout : qL y ≤ q → q ≤ qL y + 2 → yT T v (S 7 v) w (31 * (31 * S 15 v + S 7 v) + w) (zs_led S v w) q j = T q j := by
          intro a b
          refine yT_o (by omega) (by omega) (Or.inl ?_)
          have := @qd_L v y (S 7 v) q hs (by omega)
          omega
        unfold zk at hqT ⊢
        by_cases c1 : q = qL y ∧ j = 3
        · rw [if_pos c1] at hqT ⊢; rw [hqT, hout (by omega) (by omega)]
        · rw [if_neg c1] at hqT ⊢
          by_cases c2 : q = qL y + 1 ∧ j < 4
          · rw [if_pos c2] at hqT ⊢; rw [hqT, hout (by omega) (by omega)]
          · rw [if_neg c2] at hqT ⊢
            by_cases c3 : q = qL y + 2 ∧ j < 4
            · rw [if_pos c3] at hqT ⊢; rw [hqT, hout (by omega) (by omega)]
            · rw [if_neg c3]
      · have e : uk U v u' (qL y + 3) = U (qL y + 3) := by unfold uk; rw [if_neg (by omega)]
        rw [e]
        have hY2 : yB d' x (U (qL y + 3)) (zv_get S y) := by
          refine ⟨fun k hk => ?_, hLy.2.2⟩
          obtain ⟨a, h1, h2, h3, h4⟩ := hLy.2.1 k hk
          refine ⟨a, h1, h2, by omega, ?_⟩
          have h88 := hBy.2.2.1
          rw [hfr a h3 (fun k' hk' h => hyv (hD y v k k' a hy hv (by omega) hk' h1 h))]
          exact h4
        exact yB_ext hBy.2.2.1 (ze_geto hyv (fun h => by cases h) (by decide) (fun _ h => by omega)) (fun j k h1 h4 hk => ze_geto hyv (fun h => by omega) (by omega) (fun _ _ => by omega)) hY2
  · -- books apart
    have old : ∀ y i a, y < 5 → i < 8 → U (qL y + 3) i = some a → a < d.2 := by
      intro y i a hy hi h
      have hBy := hLB y hy
      by_cases hk : i < zv_get S y 5 0
      · obtain ⟨b, b1, b2, b3, b4⟩ := (hL y hy).2.1 i hk
        rw [h] at b1; cases b1; exact b3
      · rw [(hL y hy).2.2.1 i (by omega) hi] at h; cases h
    intro y z i j a hy hz hi hj h1 h2
    have ey : qL y = 41 + 36 * y := by unfold qL; omega
    have ez : qL z = 41 + 36 * z := by unfold qL; omega
    by_cases hyv : y = v <;> by_cases hzv : z = v
    · omega
    · have e1 : uk U v u' (qL y + 3) = u' := by unfold uk; rw [if_pos (by omega)]
      have e2 : uk U v u' (qL z + 3) = U (qL z + 3) := by unfold uk; rw [if_neg (by omega)]
      rw [e1] at h1; rw [e2] at h2
      rcases hsub i a hi h1 with h | ⟨k', a1, a2⟩
      · have := old z j a hz hj h2; omega
      · have := hD v z k' j a hv hz a1 hj a2 h2; omega
    · have e1 : uk U v u' (qL z + 3) = u' := by unfold uk; rw [if_pos (by omega)]
      have e2 : uk U v u' (qL y + 3) = U (qL y + 3) := by unfold uk; rw [if_neg (by omega)]
      rw [e2] at h1; rw [e1] at h2
      rcases hsub j a hj h2 with h | ⟨k', a1, a2⟩
      · have := old y i a hy hi h1; omega
      · have := hD v y k' i a hv hy a1 hi a2 h1; omega
    · have e1 : uk U v u' (qL z + 3) = U (qL z + 3) := by unfold uk; rw [if_neg (by omega)]
      have e2 : uk U v u' (qL y + 3) = U (qL y + 3) := by unfold uk; rw [if_neg (by omega)]
      rw [e2] at h1; rw [e1] at h2
      exact hD y z i j a hy hz hi hj h1 h2
  · have e : uk U v u' 189 = U 189 := by unfold uk; rw [if_neg (by omega)]
    rw [e, ze_row (by omega), ze_row (by omega), ze_row (by omega), ze_row (by omega), ze_row (by omega), ze_row (by omega)]
    refine ⟨fun h => ?_, (hT k hk).2⟩
    obtain ⟨a, a1, a2, a3, a4⟩ := (hT k hk).1 h
    refine ⟨a, a1, a2, by omega, ?_⟩
    rw [hfr a a3 (yB_not (hL v hv).2 (hLB v hv).2.2.1 (fun p q r w h => by rw [a4] at h; exact ytx_ne (Option.some.inj h)))]
    exact a4
  · have e : uk U v u' 190 = U 190 := by unfold uk; rw [if_neg (by omega)]
    rw [e, ze_row (by omega), ze_row (by omega), ze_row (by omega), ze_r (show 19 < 7 ∨ 19 = 12 ∨ (15 < 19 ∧ 19 < 26) by omega)]
    refine ⟨fun h => ?_, (hM k hk).2⟩
    obtain ⟨a, b, c, a1, a2, a3, b2, b3, c2, c3, a4, ⟨f, b4, b5⟩, ⟨g, c4, c5⟩⟩ := (hM k hk).1 h
    refine ⟨a, b, c, a1, a2, by omega, b2, by omega, c2, by omega, ?_, ⟨f, ?_, b5⟩, ⟨g, ?_, c5⟩⟩
    · rw [hfr a a3 (yB_not (hL v hv).2 (hLB v hv).2.2.1 (fun p q r w h => by rw [a4] at h; exact zl_cell_ne (Option.some.inj h)))]
      exact a4
    · rw [hfr b b3 (yB_not (hL v hv).2 (hLB v hv).2.2.1 (fun p q r w h => by rw [b4] at h; exact yar_ne (Option.some.inj h)))]
      exact b4
    · rw [hfr c c3 (yB_not (hL v hv).2 (hLB v hv).2.2.1 (fun p q r w h => by rw [c4] at h; exact yar_ne (Option.some.inj h)))]
      exact c4
end YRX
