/-! Class and reference: what they have in common; the closing of a slot. -/
def yR0 (T S : Nat → Nat → Nat) : Prop := T 0 0 = S 0 0 ∧ T 0 5 = S 16 0 ∧ T 0 6 = S 1 0 ∧ (∀ v, v < 5 → T (3 + v) 0 = S 2 v ∧ T (3 + v) 1 = S 3 v ∧ T (3 + v) 2 = S 4 v ∧ T (3 + v) 3 = if S 4 v = 0 then 0 else S 5 v) ∧ (∀ v, v < 5 → T (qN v) 2 = S 7 v ∧ T (qN v) 3 = S 15 v)
/-- what is kept of every slot -/
def yRa (T S : Nat → Nat → Nat) (v s : Nat) : Prop := T (qA v s) 10 = S 14 (3 * v + s) ∧ ∀ k, k < 3 → T (qS v s k) 2 = S 12 (27 * v + 9 * s + 3 * k) ∧ T (qS v s k) 3 = S 12 (27 * v + 9 * s + 3 * k + 2) ∧ T (qS v s k + 2) v = S 12 (27 * v + 9 * s + 3 * k + 1) ∧ T (qS v s k + 1) v = (S 12 (27 * v + 9 * s + 3 * k) ||| S 12 (27 * v + 9 * s + 3 * k + 1))
/-- what is kept of the slot at work, and of those to come -/
def yRq (S : Nat → Nat → Nat) (v s : Nat) : zq_Q := if s = S 7 v then zw_get S v else fun _ _ => 0
def yRb (T S : Nat → Nat → Nat) (v s : Nat) : Prop := T (qA v s) 6 = yRq S v s 2 3 ∧ (∀ j, j < 3 → T (qA v s) (7 + j) = yRq S v s 2 j) ∧ ∀ k j, k < 3 → j < 5 → j ≠ v → T (qS v s k + 1) j = yRq S v s 1 (6 * j + 2 * k) ∧ T (qS v s k + 2) j = yRq S v s 1 (6 * j + 2 * k + 1)
def yRl (d : za_h) (x : Nat) (T : Nat → Nat → Nat) (U : Nat → Nat → Option Nat) (S : Nat → Nat → Nat) (v : Nat) : Prop := zk T v (zv_get S v) = T ∧ yB d x (U (qL v + 3)) (zv_get S v)
def yRd (U : Nat → Nat → Option Nat) : Prop := ∀ v w i j a, v < 5 → w < 5 → i < 8 → j < 8 → U (qL v + 3) i = some a → U (qL w + 3) j = some a → v = w
def yRt (d : za_h) (x : Nat) (U : Nat → Nat → Option Nat) (S : Nat → Nat → Nat) : Prop := ∀ k, k < 9 → (S 20 k = 1 → ∃ a, U 189 k = some a ∧ x + 221 ≤ a ∧ a < d.2 ∧ d.1 a = some (ytx (S 21 k) (S 22 k) (S 23 k) (S 24 k) (S 25 k))) ∧ (S 20 k ≠ 1 → U 189 k = none)
def yar (f : Nat → Nat) : za_c := .inl (0, 3, .inl (fun j => nI (f j)))
def yen (v s b c : Nat) : za_c := .inr (2, [.int (nI v), .int (nI s), .ref b, .ref c])
def yRm (d : za_h) (x : Nat) (U : Nat → Nat → Option Nat) (S : Nat → Nat → Nat) : Prop := ∀ k, k < 120 → (k < S 16 0 → ∃ a b c, U 190 k = some a ∧ x + 221 ≤ a ∧ a < d.2 ∧ x + 221 ≤ b ∧ b < d.2 ∧ x + 221 ≤ c ∧ c < d.2 ∧ d.1 a = some (yen (S 17 k) (S 18 k) b c) ∧ (∃ f, d.1 b = some (yar f) ∧ ∀ j, j < 3 → f j = S 19 (6 * k + 2 * j)) ∧ (∃ f, d.1 c = some (yar f) ∧ ∀ j, j < 3 → f j = S 19 (6 * k + 2 * j + 1))) ∧ (S 16 0 ≤ k → U 190 k = none)
def yR (d : za_h) (x : Nat) (T : Nat → Nat → Nat) (U : Nat → Nat → Option Nat) (S : Nat → Nat → Nat) : Prop :=
  yR0 T S ∧ (∀ v s, v < 5 → s < 3 → yRa T S v s) ∧ (∀ v s, v < 5 → s < 3 → S 7 v ≤ s → yRb T S v s) ∧ (∀ v, v < 5 → yRl d x T U S v) ∧ yRd U ∧ yRt d x U S ∧ yRm d x U S ∧ x + 221 ≤ d.2
section YX
variable {d : za_h} {x v : Nat} {T : Nat → Nat → Nat} {U : Nat → Nat → Option Nat} {u : Nat → Option Nat} {L : zq_Q} {S : Nat → Nat → Nat}
theorem yB_not {a : Nat} (hY : yB d x u L) (h8 : L 5 0 ≤ 8) (h : ∀ p q r w, d.1 a ≠ some (yof p q r w)) : ∀ k, k < 8 → u k ≠ some a := by
  intro k hk hu
  by_cases hkL : k < L 5 0
  · obtain ⟨b, h1, -, -, h4⟩ := hY.1 k hkL
    rw [hu] at h1; cases h1
    exact h _ _ _ _ h4
  · rw [hY.2.1 k (by omega) hk] at hu; cases hu
theorem ytx_ne {kd ac wh ot am p q r w : Nat} : ytx kd ac wh ot am ≠ yof p q r w := by
  unfold ytx yof; intro h; cases h
theorem qN_L : qL v = qN v + 32 := by unfold qL qN; omega
theorem yclose7 (hv : v < 5) {s w hd : Nat} (hs : s < 3) (hw : w < 8) (hB : zl_B L) (hY : yB d x u L) (hd2 : x + 221 ≤ d.2) (htx : zi_tx S) (hT2 : T (qN v) 2 = s) (hT3 : T (qN v) 3 = hd) (hRt : ∀ k, k < 9 → (S 20 k = 1 → ∃ a, U 189 k = some a ∧ x + 221 ≤ a ∧ a < d.2 ∧ d.1 a = some (ytx (S 21 k) (S 22 k) (S 23 k) (S 24 k) (S 25 k))) ∧ (S 20 k ≠ 1 → U 189 k = none)) :
    ∀ (n j f : Nat) (d1 : za_h) (u1 : Nat → Option Nat), j + n = 3 → n < f → yB d1 x u1 (zl_run S s w j L) → d.2 ≤ d1.2 → (∀ b, b < d.2 → (∀ k, k < 8 → u k ≠ some b) → d1.1 b = d.1 b) → (∀ k b, k < 8 → u1 k = some b → d.2 ≤ b ∨ ∃ k', k' < 8 ∧ u k' = some b) →
    ∃ d' u', zf_TL_closeSlot_7 f x (x + qN v) (nI w) (nI j) (zx d1 x (zk T v (zl_run S s w j L)) (uk U v u1)) = some ((), zx d' x (u2 (u2 (zk T v (zl_run S s w 3 L)) (qN v) 3 (31 * (31 * hd + s) + w)) (qN v) 2 (s + 1)) (uk U v u')) ∧ yB d' x u' (zl_run S s w 3 L) ∧ d.2 ≤ d'.2 ∧ (∀ b, b < d.2 → (∀ k, k < 8 → u k ≠ some b) → d'.1 b = d.1 b) ∧ (∀ k b, k < 8 → u' k = some b → d.2 ≤ b ∨ ∃ k', k' < 8 ∧ u k' = some b) := by
  have hq := @qN_L v
  have z2 : ∀ M, zk T v M (qN v) 2 = s := fun M => by rw [zkl_o (by omega), hT2]
  have z3 : ∀ M, zk T v M (qN v) 3 = hd := fun M => by rw [zkl_o (by omega), hT3]
  intro n
  induction n with
  | zero =>
    intro j f d1 u1 hj hf hY1 hd1 hfr hsub
    obtain ⟨f, rfl⟩ : ∃ q, f = q + 1 := ⟨f - 1, by omega⟩
    obtain rfl : j = 3 := by omega
    refine ⟨d1, u1, ?_, hY1, hd1, hfr, hsub⟩
    rw [zf_TL_closeSlot_7, if_pos (Int32.le_refl _), xn_g3 _ x _ _ hv, zbs, z3, xn_g2 _ x _ _ hv, zbs, z2, pk_mul, nI_add, pk_mul, nI_add, xn_p3 _ x _ _ _ hv, zbs, xn_g2 _ x _ _ hv, zbs, u2_i (show 2 ≠ 3 by decide), z2, nI_add, xn_p2 _ x _ _ _ hv, zbs]
  | succ n ih =>
    intro j f d1 u1 hj hf hY1 hd1 hfr hsub
    obtain ⟨f, rfl⟩ : ∃ q, f = q + 1 := ⟨f - 1, by omega⟩
    have hB1 := zl_run_B htx hs (x := w) j (by omega) L hB
    have h9 : 3 * s + j < 9 := by omega
    have hU : ∀ k, uk U v u1 189 k = U 189 k := fun k => by unfold uk; rw [if_neg (by unfold qL; omega)]
    have hrun : zl_run S s w (j + 1) L = if w.testBit j && S 20 (3 * s + j) == 1 then zl_carry (zl_run S s w j L) (S 21 (3 * s + j)) (S 22 (3 * s + j)) (S 23 (3 * s + j)) (S 24 (3 * s + j)) (S 25 (3 * s + j)) else zl_run S s w j L := rfl
    rw [zf_TL_closeSlot_7, if_neg (nI_ge (by omega) (by decide)), xo_g3, zbs, xn_g2 _ x _ _ hv, zbs, z2, pk_mul, nI_add, show s * 3 + j = 3 * s + j by omega, xtx_l _ x _ _ h9, zbs, hU, yh (show w < 2 ^ 32 by omega) (show j < 32 by omega), zbs]
    dsimp only
    unfold zf_TL_closeSlot_49
    have skip : zl_run S s w (j + 1) L = zl_run S s w j L → ∃ d' u', zf_TL_closeSlot_7 f x (x + qN v) (nI w) (nI j + nI 1) (zx d1 x (zk T v (zl_run S s w j L)) (uk U v u1)) = some ((), zx d' x (u2 (u2 (zk T v (zl_run S s w 3 L)) (qN v) 3 (31 * (31 * hd + s) + w)) (qN v) 2 (s + 1)) (uk U v u')) ∧ yB d' x u' (zl_run S s w 3 L) ∧ d.2 ≤ d'.2 ∧ (∀ b, b < d.2 → (∀ k, k < 8 → u k ≠ some b) → d'.1 b = d.1 b) ∧ (∀ k b, k < 8 → u' k = some b → d.2 ≤ b ∨ ∃ k', k' < 8 ∧ u k' = some b) := by
      intro he
      rw [nI_add, ← he]
      exact ih (j + 1) f d1 u1 (by omega) (by omega) (by rw [he]; exact hY1) hd1 hfr hsub
    cases hb : w.testBit j
    · rw [if_pos (by decide)]
      exact skip (by rw [hrun, hb]; rfl)
    · rw [if_neg (by decide)]
      by_cases h20 : S 20 (3 * s + j) = 1
      · obtain ⟨a, ha1, ha2, ha3, ha4⟩ := (hRt _ h9).1 h20
        have tx := (htx _ h9).2 h20
        obtain ⟨-, -, -, -, -, -, t0, t1, t2, t3, t4, t5, t6⟩ := tx
        have hnb : ∀ k, k < 8 → u k ≠ some a := yB_not hY hB.2.2.1 (fun p q r w h => by rw [ha4] at h; exact ytx_ne (Option.some.inj h))
        have hc1 : d1.1 a = some (ytx (S 21 (3 * s + j)) (S 22 (3 * s + j)) (S 23 (3 * s + j)) (S 24 (3 * s + j)) (S 25 (3 * s + j))) := by rw [hfr a ha3 hnb, ha4]
        rw [ha1]
        dsimp only
        rw [xn_g1 _ x _ _ hv, zbs, xl_c _ x _ _ hv, zbs]
        obtain ⟨d2, w2, e1, e2, e3, e4, e5⟩ := ycarry (T := T) (U := U) hv hB1 hY1 (by omega) ha2 (by omega) hc1 t0 t1 t2 t3 t4 t6
        rw [e1, zbs, nI_add]
        have he : zl_run S s w (j + 1) L = zl_carry (zl_run S s w j L) (S 21 (3 * s + j)) (S 22 (3 * s + j)) (S 23 (3 * s + j)) (S 24 (3 * s + j)) (S 25 (3 * s + j)) := by
          rw [hrun, hb, h20]; rfl
        rw [← he] at e1 e2 ⊢
        refine ih (j + 1) f d2 w2 (by omega) (by omega) e2 (by omega) (fun b hb hbu => ?_) (fun k b hk h => ?_)
        · rw [e4 b (by omega) (fun k hk h => by rcases hsub k b hk h with h | ⟨k', a1, a2⟩; omega; exact hbu k' a1 a2), hfr b hb hbu]
        · rcases e5 k b hk h with h | ⟨k', a1, a2⟩
          · exact Or.inl (by omega)
          · exact hsub k' b a1 a2
      · rw [(hRt _ h9).2 h20]
        dsimp only
        exact skip (by rw [hrun, beq_false_of_ne h20, Bool.and_false]; rfl)
end YX
