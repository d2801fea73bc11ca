/-! The class: matching, carrying out. -/
section YN
variable {x v : Nat} {T : Nat → Nat → Nat} {U : Nat → Nat → Option Nat} {c ac ow lim : Nat}
theorem zl_push_r {L : zq_Q} {left : Nat} (h : 0 < left ∧ L 5 0 < 8) : zl_push L ac ow lim left = u2 (u2 (u2 (u2 (u2 L 1 (L 5 0) ac) 2 (L 5 0) ow) 3 (L 5 0) lim) 4 (L 5 0) left) 5 0 (L 5 0 + 1) := by unfold zl_push; rw [if_pos h]
def yup1 (u : Nat → Option Nat) (L : zq_Q) (left c : Nat) : Nat → Option Nat := if 0 < left ∧ L 5 0 < 8 then u1 u (L 5 0) (some c) else u
theorem ypush {d : za_h} {u : Nat → Option Nat} {L : zq_Q} {left : Nat} (hv : v < 5) (hB : zl_B L) (hY : yB d x u L) (hc : x + 221 ≤ c) (hcd : c < d.2) (hcc : d.1 c = some (yof ac ow lim left)) (hcu : ∀ k, k < 8 → u k ≠ some c) (hleft : left ≤ 1000) :
    zf_Ledger_match_57 (x + qL v) c (zx d x (zk T v L) (uk U v u)) = some ((), zx d x (zk T v (zl_push L ac ow lim left)) (uk U v (yup1 u L left c))) ∧ yB d x (yup1 u L left c) (zl_push L ac ow lim left) := by
  have h8 := hB.2.2.1
  have hc' : x + 191 ≤ c := by omega
  unfold zf_Ledger_match_57 zf_Ledger_match_93 yup1
  rw [yof_3 hc' hcc, zbs, xl_g3 _ x _ _ hv, zbs, zkl_3]
  by_cases h0 : left = 0
  · have hn : ¬ (0 < left ∧ L 5 0 < 8) := by omega
    rw [if_pos ((zn_le0 (by omega)).mpr h0), if_neg hn]
    unfold zl_push
    rw [if_neg hn]
    exact ⟨rfl, hY⟩
  · rw [if_neg (fun h => h0 ((zn_le0 (by omega)).mp h))]
    by_cases h1 : L 5 0 < 8
    · have hp : 0 < left ∧ L 5 0 < 8 := by omega
      rw [if_neg (nI_ge h1 (by decide)), if_pos hp, zl_push_r hp]
      constructor
      · rw [xl_g2 _ x _ _ hv, zbs, zbs]
        rw [zx_sq (q := qL v + 3) (n := 8) (qL_lt (c := 3) hv (by decide)) (fun U => zc_Lb hv) h1 (by decide) (fun b h => by cases h; exact yof_c hc' hcc), zbs, uk_u, xl_g3 _ x _ _ hv, zbs, zkl_3, nI_add, xl_p3 _ x _ _ _ hv, zbs, zkl_u3]
        rw [zk_ext (L := u2 L 5 0 (L 5 0 + 1)) (L' := u2 (u2 (u2 (u2 (u2 L 1 (L 5 0) ac) 2 (L 5 0) ow) 3 (L 5 0) lim) 4 (L 5 0) left) 5 0 (L 5 0 + 1)) (fun j _ => by rw [u2_k (by decide), u2_k (by decide), u2_k (by decide), u2_k (by decide), u2_k (by decide), u2_k (by decide)]) (by rw [u2_s, u2_s])]
      · refine ⟨fun k hk => ?_, fun k hk hk8 => ?_, fun i j a hi hj a1 a2 => ?_⟩
        · rw [u2_s] at hk
          by_cases hkr : k = L 5 0
          · subst hkr
            refine ⟨c, by unfold u1; rw [if_pos rfl], hc, hcd, ?_⟩
            rw [u2_k (by decide), u2_k (by decide), u2_k (by decide), u2_k (by decide), u2_s, u2_k (by decide), u2_k (by decide), u2_k (by decide), u2_s, u2_k (by decide), u2_k (by decide), u2_s, u2_k (by decide), u2_s]
            exact hcc
          · obtain ⟨a, b1, b2, b3, b4⟩ := hY.1 k (by omega)
            refine ⟨a, by unfold u1; rw [if_neg hkr]; exact b1, b2, b3, ?_⟩
            simp only [u2_k (show (1 : Nat) ≠ 5 by decide), u2_k (show (2 : Nat) ≠ 5 by decide), u2_k (show (3 : Nat) ≠ 5 by decide), u2_k (show (4 : Nat) ≠ 5 by decide), u2_i hkr]
            exact b4
        · rw [u2_s] at hk
          unfold u1; rw [if_neg (by omega)]
          exact hY.2.1 k (by omega) hk8
        · unfold u1 at a1 a2
          by_cases c1 : i = L 5 0 <;> by_cases c2 : j = L 5 0
          · omega
          · rw [if_pos c1] at a1; rw [if_neg c2] at a2; cases a1; exact absurd a2 (hcu j hj)
          · rw [if_neg c1] at a1; rw [if_pos c2] at a2; cases a2; exact absurd a1 (hcu i hi)
          · rw [if_neg c1] at a1; rw [if_neg c2] at a2; exact hY.2.2 i j a hi hj a1 a2
    · have hn : ¬ (0 < left ∧ L 5 0 < 8) := by omega
      rw [if_pos (nI_le (by omega) (by omega)), if_neg hn]
      unfold zl_push
      rw [if_neg hn]
      exact ⟨rfl, hY⟩
/-- one step of matching, as the mathematics says it -/
theorem zl_trade_st {f left : Nat} {L : zq_Q} {o : Nat} (hb : zl_best L ow lim (L 5 0) 0 none = some o) (hl : left ≠ 0) : zl_trade ac ow lim (f + 1) left L = if zl_n L ac o left = 0 ∧ zl_poor L o = false then (left, L) else zl_trade ac ow lim f (left - zl_n L ac o left) (ynx L ac o (zl_n L ac o left)) := by
  rw [zl_trade_s, hb]
  dsimp only
  rw [if_neg hl]
  unfold ynx
  by_cases hn : zl_n L ac o left = 0
  · rw [if_neg (show ¬ 0 < zl_n L ac o left by omega), hn, Nat.sub_zero, if_pos (show 0 = 0 ∨ L 4 o - 0 = 0 from Or.inl rfl), zl_cross_0]
    cases hp : zl_poor L o
    · rw [if_pos (show (0 : Nat) = 0 ∧ false = false from ⟨rfl, rfl⟩)]; rfl
    · rw [if_neg (show ¬ ((0 : Nat) = 0 ∧ true = false) from fun h => by cases h.2)]; rfl
  · rw [if_pos (show 0 < zl_n L ac o left by omega), if_neg (show ¬ (zl_n L ac o left = 0 ∧ zl_poor L o = false) from fun h => hn h.1)]
    by_cases h4 : L 4 o - zl_n L ac o left = 0
    · rw [if_pos h4, if_pos (show zl_n L ac o left = 0 ∨ L 4 o - zl_n L ac o left = 0 from Or.inr h4)]
    · rw [if_neg h4, if_neg (show ¬ (zl_n L ac o left = 0 ∨ L 4 o - zl_n L ac o left = 0) by omega)]
theorem ynx_B {L : zq_Q} (hB : zl_B L) (hac : ac < 4) {o left : Nat} (ho : o < L 5 0) : zl_B (ynx L ac o (zl_n L ac o left)) := by
  obtain ⟨n1, n2, n3, n4⟩ := zl_n_le L ac o left
  unfold ynx
  split
  · exact zl_crossrem_B hB hac ho
  · exact zl_cross_B hB hac ho (by omega)
theorem ymatch4 (hv : v < 5) (hac : ac < 4) (how : ow < 2) (hlim : lim ≤ 9) (hc : x + 221 ≤ c) : ∀ (f k fuel : Nat) (d : za_h) (u : Nat → Option Nat) (L : zq_Q) (left : Nat), k + f = 1009 → f < fuel → zl_B L → yB d x u L → c < d.2 → d.1 c = some (yof ac ow lim left) → (∀ k, k < 8 → u k ≠ some c) → left ≤ 1000 →
    ∃ d' u', zf_Ledger_match_4 fuel (x + qL v) c (nI 1) (nI k) (zx d x (zk T v L) (uk U v u)) = some ((), zx d' x (zk T v (zl_push (zl_trade ac ow lim f left L).2 ac ow lim (zl_trade ac ow lim f left L).1)) (uk U v u')) ∧ yB d' x u' (zl_push (zl_trade ac ow lim f left L).2 ac ow lim (zl_trade ac ow lim f left L).1) ∧ d'.2 = d.2 ∧ (∀ b, b ≠ c → (∀ k, k < 8 → u k ≠ some b) → d'.1 b = d.1 b) ∧ (∀ k b, k < 8 → u' k = some b → b = c ∨ ∃ k', k' < 8 ∧ u k' = some b) := by
  intro f
  induction f with
  | zero =>
    intro k fuel d u L left hk hf hB hY hcd hcc hcu hleft
    obtain ⟨fuel, rfl⟩ : ∃ q, fuel = q + 1 := ⟨fuel - 1, by omega⟩
    obtain rfl : k = 1009 := by omega
    obtain ⟨p1, p2⟩ := ypush (T := T) (U := U) hv hB hY hc hcd hcc hcu hleft
    refine ⟨d, yup1 u L left c, ?_, p2, rfl, fun b _ _ => rfl, fun k b hk h => ?_⟩
    · rw [zf_Ledger_match_4, if_pos (Int32.le_refl _), p1]; rfl
    · unfold yup1 u1 at h
      split at h
      · dsimp only at h
        split at h
        · cases h; exact Or.inl rfl
        · exact Or.inr ⟨k, hk, h⟩
      · exact Or.inr ⟨k, hk, h⟩
  | succ f ih =>
    intro k fuel d u L left hk hf hB hY hcd hcc hcu hleft
    obtain ⟨fuel, rfl⟩ : ∃ q, fuel = q + 1 := ⟨fuel - 1, by omega⟩
    obtain ⟨fuel, rfl⟩ : ∃ q, fuel = q + 1 := ⟨fuel - 1, by omega⟩
    have hc' : x + 191 ≤ c := by omega
    obtain ⟨p1, p2⟩ := ypush (T := T) (U := U) hv hB hY hc hcd hcc hcu hleft
    have psub : ∀ k b, k < 8 → yup1 u L left c k = some b → b = c ∨ ∃ k', k' < 8 ∧ u k' = some b := by
      intro k b hk h
      unfold yup1 u1 at h
      split at h
      · dsimp only at h
        split at h
        · cases h; exact Or.inl rfl
        · exact Or.inr ⟨k, hk, h⟩
      · exact Or.inr ⟨k, hk, h⟩
    have stop : ∀ k', zf_Ledger_match_4 (fuel + 1) (x + qL v) c (nI 0) k' (zx d x (zk T v L) (uk U v u)) = some ((), zx d x (zk T v (zl_push L ac ow lim left)) (uk U v (yup1 u L left c))) := by
      intro k'
      rw [zf_Ledger_match_4, p1]
      by_cases h : nI 1009 ≤ k'
      · rw [if_pos h]
      · rw [if_neg h, if_pos (by decide)]
    have hbest := ybest (T := T) (U := U) hv hB hY hc hcc how hlim
    rw [zf_Ledger_match_4, if_neg (nI_ge (by omega) (by decide)), if_neg (by decide), yof_3 hc' hcc, zbs]
    by_cases hl : left = 0
    · have et : zl_trade ac ow lim (f + 1) left L = (left, L) := by
        rw [zl_trade_s]
        split
        · rfl
        · rw [if_pos hl]
      rw [if_pos ((zn_le0 (by omega)).mpr hl), et, p1]
      exact ⟨d, yup1 u L left c, rfl, p2, rfl, fun b _ _ => rfl, psub⟩
    · rw [if_neg (fun h => hl ((zn_le0 (by omega)).mp h)), xl_c _ x _ _ hv, zbs, hbest, zbs]
      dsimp only
      unfold zf_Ledger_match_49 zf_Ledger_match_50
      cases hbo : zl_best L ow lim (L 5 0) 0 none with
      | none =>
        have et : zl_trade ac ow lim (f + 1) left L = (left, L) := by rw [zl_trade_s, hbo]
        rw [show (ypb L none).1 = (-1 : Int32) from rfl, if_pos rfl, et, stop]
        exact ⟨d, yup1 u L left c, rfl, p2, rfl, fun b _ _ => rfl, psub⟩
      | some o =>
        obtain ⟨ho, hfit⟩ := zl_best_lt (L 5 0) 0 none (L 5 0) (by omega) (fun g hg => by cases hg) o hbo
        have h8 := hB.2.2.1
        have hside : L 2 o ≠ ow := by
          intro h
          unfold zl_fit at hfit
          rw [h] at hfit
          simp at hfit
        have hne : ¬ ((ypb L (some o)).1 = (-1 : Int32)) := by
          intro h
          have h1 : (nI o).toInt = (-1 : Int32).toInt := congrArg Int32.toInt h
          rw [nI_toInt (by omega)] at h1
          have h2 : (-1 : Int32).toInt = -1 := by decide
          omega
        obtain ⟨t1, t2⟩ := ytrade (T := T) (U := U) hv hB hY hc hcd hcc hac how ho hside hcu hleft
        rw [if_neg hne, xl_c _ x _ _ hv, zbs, zl_trade_st hbo hl]
        show ∃ d' u', ((zf_Ledger_tradeWith (x + qL v) c (nI o) (zx d x (zk T v L) (uk U v u))).bind _ = _) ∧ _
        by_cases hst : zl_n L ac o left = 0 ∧ zl_poor L o = false
        · rw [t1 hst, zbs, if_pos hst]
          dsimp only
          rw [if_pos (by decide), stop]
          exact ⟨d, yup1 u L left c, rfl, p2, rfl, fun b _ _ => rfl, psub⟩
        · obtain ⟨d1, w1, q1, q2, q3, q4, q5, q6⟩ := t2 hst
          rw [q1, zbs, if_neg hst]
          dsimp only
          rw [if_neg (by decide), nI_add]
          obtain ⟨d2, w2, r1, r2, r3, r4, r5⟩ := ih (k + 1) (fuel + 1) d1 w1 (ynx L ac o (zl_n L ac o left)) (left - zl_n L ac o left) (by omega) (by omega) (ynx_B hB hac ho) q2 (by rw [q4]; exact hcd) q3 (fun k hk h => by obtain ⟨k', a1, a2⟩ := q6 k c hk h; exact hcu k' a1 a2) (by omega)
          refine ⟨d2, w2, r1, r2, by rw [r3, q4], fun b hb hbu => ?_, fun k b hk h => ?_⟩
          · rw [r4 b hb (fun k hk h => by obtain ⟨k', a1, a2⟩ := q6 k b hk h; exact hbu k' a1 a2), q5 b hb hbu]
          · rcases r5 k b hk h with h | ⟨k', a1, a2⟩
            · exact Or.inl h
            · exact Or.inr (q6 k' b a1 a2)
/-- 1009 steps and 1100 steps come to the same -/
theorem zl_trade_eq (hac : ac < 4) : ∀ (f g left : Nat) (L : zq_Q), zl_B L → left + L 5 0 < f → left + L 5 0 < g → zl_trade ac ow lim f left L = zl_trade ac ow lim g left L := by
  intro f
  induction f with
  | zero => intro g left L _ h; omega
  | succ f ih =>
    intro g left L hB h1 h2
    obtain ⟨g, rfl⟩ : ∃ q, g = q + 1 := ⟨g - 1, by omega⟩
    cases hbo : zl_best L ow lim (L 5 0) 0 none with
    | none => rw [zl_trade_s, zl_trade_s, hbo]
    | some o =>
      by_cases hl : left = 0
      · rw [zl_trade_s, zl_trade_s, hbo]; dsimp only; rw [if_pos hl, if_pos hl]
      · rw [zl_trade_st hbo hl, zl_trade_st hbo hl]
        by_cases hst : zl_n L ac o left = 0 ∧ zl_poor L o = false
        · rw [if_pos hst, if_pos hst]
        · rw [if_neg hst, if_neg hst]
          obtain ⟨ho, -⟩ := zl_best_lt (L 5 0) 0 none (L 5 0) (by omega) (fun g hg => by cases hg) o hbo
          obtain ⟨n1, n2, n3, n4⟩ := zl_n_le L ac o left
          have e5 : ∀ n, zl_cross L ac o n 5 0 = L 5 0 := fun n => zl_cross_j (by decide) (Or.inl (by decide))
          have hm : left - zl_n L ac o left + ynx L ac o (zl_n L ac o left) 5 0 < left + L 5 0 := by
            unfold ynx
            split
            · rw [zl_rem_5, e5]; omega
            · rw [e5]; omega
          exact ih g _ _ (ynx_B hB hac ho) (by omega) (by omega)
theorem ymatch (hv : v < 5) (hac : ac < 4) (how : ow < 2) (hlim : lim ≤ 9) (hc : x + 221 ≤ c) {d : za_h} {u : Nat → Option Nat} {L : zq_Q} {left : Nat} (hB : zl_B L) (hY : yB d x u L) (hcd : c < d.2) (hcc : d.1 c = some (yof ac ow lim left)) (hcu : ∀ k, k < 8 → u k ≠ some c) (hleft : left ≤ 1000) :
    ∃ d' u', zf_Ledger_match (x + qL v) c (zx d x (zk T v L) (uk U v u)) = some ((), zx d' x (zk T v (zl_offer L ac ow lim left)) (uk U v u')) ∧ yB d' x u' (zl_offer L ac ow lim left) ∧ d'.2 = d.2 ∧ (∀ b, b ≠ c → (∀ k, k < 8 → u k ≠ some b) → d'.1 b = d.1 b) ∧ (∀ k b, k < 8 → u' k = some b → b = c ∨ ∃ k', k' < 8 ∧ u k' = some b) := by
  have h8 := hB.2.2.1
  have e : zl_offer L ac ow lim left = zl_push (zl_trade ac ow lim 1009 left L).2 ac ow lim (zl_trade ac ow lim 1009 left L).1 := by
    unfold zl_offer
    rw [zl_trade_eq hac 1009 1100 left L hB (by omega) (by omega)]
  rw [e]
  unfold zf_Ledger_match
  exact ymatch4 hv hac how hlim hc 1009 0 1010 d u L left (by decide) (by decide) hB hY hcd hcc hcu hleft
end YN
