/-! The class: a transaction carried out. -/
def ytx (kd ac wh ot am : Nat) : za_c := .inr (8, [.int (nI kd), .int (nI ac), .int (nI wh), .int (nI ot), .int (nI am)])
section YC
variable {d : za_h} {x v : Nat} {T : Nat → Nat → Nat} {U : Nat → Nat → Option Nat} {u : Nat → Option Nat} {L : zq_Q} {t kd ac wh ot am : Nat}
theorem ytx_f (ha : x + 191 ≤ t) (h : d.1 t = some (ytx kd ac wh ot am)) (k : Nat) : zg_f (zx d x T U) t 8 k = ([.int (nI kd), .int (nI ac), .int (nI wh), .int (nI ot), .int (nI am)] : List Value)[k]? := by
  unfold zg_f; rw [zx_out (Or.inr ha), h]; rfl
theorem ytx_0 (ha : x + 191 ≤ t) (h : d.1 t = some (ytx kd ac wh ot am)) : zg_i (zx d x T U) t 8 0 = some (nI kd) := by unfold zg_i; rw [ytx_f ha h]; rfl
theorem ytx_1 (ha : x + 191 ≤ t) (h : d.1 t = some (ytx kd ac wh ot am)) : zg_i (zx d x T U) t 8 1 = some (nI ac) := by unfold zg_i; rw [ytx_f ha h]; rfl
theorem ytx_2 (ha : x + 191 ≤ t) (h : d.1 t = some (ytx kd ac wh ot am)) : zg_i (zx d x T U) t 8 2 = some (nI wh) := by unfold zg_i; rw [ytx_f ha h]; rfl
theorem ytx_3 (ha : x + 191 ≤ t) (h : d.1 t = some (ytx kd ac wh ot am)) : zg_i (zx d x T U) t 8 3 = some (nI ot) := by unfold zg_i; rw [ytx_f ha h]; rfl
theorem ytx_4 (ha : x + 191 ≤ t) (h : d.1 t = some (ytx kd ac wh ot am)) : zg_i (zx d x T U) t 8 4 = some (nI am) := by unfold zg_i; rw [ytx_f ha h]; rfl
theorem zx_nd {c : za_c} (hd : x + 191 ≤ d.2) : za_n (zx d x T U) c = zx (za_n d c) x T U := by
  refine Prod.ext ?_ rfl
  funext b
  show (if b = d.2 then some c else (zx d x T U).1 b) = if x ≤ b ∧ b < x + 191 then some (zx_c x T U (b - x)) else (if b = d.2 then some c else d.1 b)
  by_cases hb : b = d.2
  · rw [if_pos hb, if_neg (by omega), if_pos hb]
  · rw [if_neg hb, if_neg hb]; rfl
theorem za_n_s {c : za_c} : (za_n d c).1 d.2 = some c := by show (if d.2 = d.2 then _ else _) = _; rw [if_pos rfl]
theorem za_n_o {c : za_c} {b : Nat} (h : b ≠ d.2) : (za_n d c).1 b = d.1 b := by show (if b = d.2 then _ else d.1 b) = _; rw [if_neg h]
theorem za_n_w {c c' : za_c} : za_w (za_n d c) d.2 c' = za_n d c' := by
  refine Prod.ext ?_ rfl
  funext b
  show (if b = d.2 then some c' else if b = d.2 then some c else d.1 b) = if b = d.2 then some c' else d.1 b
  by_cases hb : b = d.2
  · rw [if_pos hb, if_pos hb]
  · rw [if_neg hb, if_neg hb, if_neg hb]
/-- a field of a fresh cell, set -/
theorem znp {ci k : Nat} {fs : List Value} {y : Value} (hd : x + 191 ≤ d.2) (hk : k < fs.length) : zp_f (zx (za_n d (.inr (ci, fs))) x T U) d.2 ci k y = some (zx (za_n d (.inr (ci, fs.set k y))) x T U) := by
  unfold zp_f
  rw [zx_out (Or.inr hd), za_n_s]
  show (if ci = ci ∧ k < fs.length then _ else _) = _
  rw [if_pos ⟨rfl, hk⟩, zx_wd hd, za_n_w]
theorem yinit (hd : x + 191 ≤ d.2) {p q r w : Int32} : zf_Offer_init d.2 p q r w (zx (za_n d (.inr (5, [.int 0, .int 0, .int 0, .int 0]))) x T U) = some ((), zx (za_n d (.inr (5, [.int p, .int q, .int r, .int w]))) x T U) := by
  unfold zf_Offer_init
  rw [znp hd (Nat.le_of_ble_eq_true rfl), zbs, znp hd (Nat.le_of_ble_eq_true rfl), zbs, znp hd (Nat.le_of_ble_eq_true rfl), zbs, znp hd (Nat.le_of_ble_eq_true rfl), zbs]
  rfl
theorem yB_n {c : za_c} (hY : yB d x u L) : yB (za_n d c) x u L := by
  refine ⟨fun k hk => ?_, hY.2⟩
  obtain ⟨a, h1, h2, h3, h4⟩ := hY.1 k hk
  exact ⟨a, h1, h2, Nat.lt_succ_of_lt h3, by rw [za_n_o (by omega)]; exact h4⟩
theorem yB_0 {L' : zq_Q} (h : ∀ j k, j ≠ 0 → L' j k = L j k) (hY : yB d x u L) : yB d x u L' := by
  unfold yB
  simp only [h 5 0 (by decide), fun k => h 1 k (by decide), fun k => h 2 k (by decide), fun k => h 3 k (by decide), fun k => h 4 k (by decide)]
  exact hY
theorem zl_B_dec (h : zl_B L) (ha : ac < 4) : zl_B (u2 L 0 (2 * ac) (L 0 (2 * ac) - 1)) := by
  refine ⟨?_, ?_, by rw [u2_k (by decide)]; exact h.2.2.1, fun k hk => ?_⟩
  · have := h.1
    rcases (show ac = 0 ∨ ac = 1 ∨ ac = 2 ∨ ac = 3 by omega) with rfl | rfl | rfl | rfl <;> simp [u2] <;> omega
  · have := h.2.1
    rcases (show ac = 0 ∨ ac = 1 ∨ ac = 2 ∨ ac = 3 by omega) with rfl | rfl | rfl | rfl <;> simp [u2] <;> omega
  · rw [u2_k (by decide)] at hk
    rw [u2_k (by decide), u2_k (by decide), u2_k (by decide), u2_k (by decide)]
    exact h.2.2.2 k hk
theorem yhold (hv : v < 5) (hw : wh < 2) {W : Nat → Nat → Option Nat} {R : Nat → Nat → Nat} : zf_Ledger_holdings (x + qL v) (nI wh) (zx d x R W) = some (x + (qL v + 1 + wh), zx d x R W) := by
  unfold zf_Ledger_holdings zf_Ledger_holdings_15
  rcases (show wh = 0 ∨ wh = 1 by omega) with rfl | rfl
  · rw [if_pos (by decide), xl_g0 d x _ _ hv, zbs]
  · rw [if_neg (by decide), xl_g1 d x _ _ hv, zbs]
theorem ycarry (hv : v < 5) (hB : zl_B L) (hY : yB d x u L) (hd : x + 221 ≤ d.2) (ht : x + 221 ≤ t) (htd : t < d.2) (hcell : d.1 t = some (ytx kd ac wh ot am)) (hkd : kd < 2) (hac : ac < 4) (hwh : wh < 2) (ho1 : kd = 1 → 1 ≤ ot ∧ ot ≤ 9) (ho0 : kd ≠ 1 → ot < 4) (ham : am ≤ 1000) :
    ∃ d' u', zf_Ledger_carryOut (x + qL v) t (zx d x (zk T v L) (uk U v u)) = some ((), zx d' x (zk T v (zl_carry L kd ac wh ot am)) (uk U v u')) ∧ yB d' x u' (zl_carry L kd ac wh ot am) ∧ d.2 ≤ d'.2 ∧ (∀ b, b < d.2 → (∀ k, k < 8 → u k ≠ some b) → d'.1 b = d.1 b) ∧ (∀ k b, k < 8 → u' k = some b → d.2 ≤ b ∨ ∃ k', k' < 8 ∧ u k' = some b) := by
  obtain ⟨c1, c2⟩ := zl_B_c hB hac
  have ht' : x + 191 ≤ t := by omega
  have hd' : x + 191 ≤ d.2 := by omega
  have hB1 := zl_B_dec hB hac
  have hY1 : yB d x u (u2 L 0 (2 * ac) (L 0 (2 * ac) - 1)) := yB_0 (fun j k hj => u2_k hj) hY
  unfold zf_Ledger_carryOut zf_Ledger_carryOut_108 zl_carry
  rw [xl_g0 d x _ _ hv, zbs, ytx_1 ht' hcell, zbs, xlc_l d x _ _ hv hac, zbs, zkl_c hac]
  by_cases h0 : L 0 (2 * ac) = 0
  · rw [if_pos ((zn_eq0 (by omega)).mpr h0), if_pos h0]
    exact ⟨d, u, rfl, hY, Nat.le_refl _, fun b _ _ => rfl, fun k b hk h => Or.inr ⟨k, hk, h⟩⟩
  · rw [if_neg (fun h => h0 ((zn_eq0 (by omega)).mp h)), if_neg h0, zbs, zbs, xlc_l d x _ _ hv hac, zbs, zkl_c hac, pk_sub (by omega), xlc_s d x _ _ hv hac, zbs, zkl_uc hac, ytx_0 ht' hcell, zbs]
    generalize u2 L 0 (2 * ac) (L 0 (2 * ac) - 1) = L1 at hB1 hY1 ⊢
    by_cases h1 : kd = 1
    · rw [if_pos (by rw [h1]), if_pos h1, zx_nd hd']
      have hcell' : (za_n d (.inr (5, [.int 0, .int 0, .int 0, .int 0]))).1 t = some (ytx kd ac wh ot am) := by rw [za_n_o (by omega)]; exact hcell
      rw [ytx_1 ht' hcell', zbs, ytx_2 ht' hcell', zbs, ytx_3 ht' hcell', zbs, ytx_4 ht' hcell', zbs]
      show ∃ d' u', ((zf_Offer_init d.2 (nI ac) (nI wh) (nI ot) (nI am) (zx (za_n d (.inr (5, [.int 0, .int 0, .int 0, .int 0]))) x (zk T v L1) (uk U v u))).bind _ = _) ∧ _
      rw [yinit hd', zbs]
      dsimp only
      rw [xl_c _ x _ _ hv, zbs]
      have hnew : (za_n d (yof ac wh ot am)).1 d.2 = some (yof ac wh ot am) := za_n_s
      have hfr : ∀ k, k < 8 → u k ≠ some d.2 := by
        intro k hk h
        by_cases hkL : k < L1 5 0
        · obtain ⟨a, a1, a2, a3, a4⟩ := hY1.1 k hkL
          rw [a1] at h; cases h; omega
        · rw [hY1.2.1 k (by omega) hk] at h; cases h
      obtain ⟨d', u', m1, m2, m3, m4, m5⟩ := ymatch (T := T) (U := U) (d := za_n d (yof ac wh ot am)) hv hac hwh (ho1 h1).2 hd hB1 (yB_n hY1) (Nat.lt_succ_self _) hnew hfr ham
      refine ⟨d', u', ?_, m2, by rw [m3]; exact Nat.le_succ _, fun b hb hbu => ?_, fun k b hk h => ?_⟩
      · show ((zf_Ledger_match (x + qL v) d.2 (zx (za_n d (yof ac wh ot am)) x (zk T v L1) (uk U v u))).bind _) = _
        rw [m1, zbs]
      · rw [m4 b (by omega) hbu, za_n_o (by omega)]
      · rcases m5 k b hk h with h | h
        · exact Or.inl (by omega)
        · exact Or.inr h
    · rw [if_neg (fun h => h1 ((nI_eq (by omega) (by decide)).mp h)), if_neg h1, ytx_2 ht' hcell, zbs, xl_c d x _ _ hv, zbs, yhold hv hwh, zbs]
      dsimp only
      obtain ⟨e1, e2⟩ := zl_B_c hB1 hac
      have hot := ho0 h1
      have hld : za_ld (zx d x (zk T v L1) (uk U v u)) (x + (qL v + 1 + wh)) 0 (nI ac) = some (nI (L1 0 (2 * ac + wh))) := by
        rcases (show wh = 0 ∨ wh = 1 by omega) with rfl | rfl
        · exact (xlc_l d x _ _ hv hac).trans (by rw [zkl_c hac]; rfl)
        · exact (xls_l d x _ _ hv hac).trans (by rw [zkl_s hac])
      have hlt : L1 0 (2 * ac + wh) < 2 ^ 31 := by
        rcases (show wh = 0 ∨ wh = 1 by omega) with rfl | rfl
        · rw [Nat.add_zero]; omega
        · omega
      rw [ytx_1 ht' hcell, zbs, hld, zbs, ytx_4 ht' hcell, zbs]
      by_cases h2 : am ≤ L1 0 (2 * ac + wh)
      · rw [if_neg (nI_nlt h2 hlt), if_pos h2, ytx_2 ht' hcell, zbs, xl_c d x _ _ hv, zbs, yhold hv hwh, zbs]
        dsimp only
        have hmv : zf_Ledger_move (x + qL v) (x + (qL v + 1 + wh)) (nI ac) (nI ot) (nI am) (zx d x (zk T v L1) (uk U v u)) = some ((), zx d x (zk T v (ymv L1 wh ac ot am)) (uk U v u)) := by
          rcases (show wh = 0 ∨ wh = 1 by omega) with rfl | rfl
          · exact ymove_c hv hac hot h2
          · exact ymove_s hv hac hot h2
        rw [ytx_1 ht' hcell, zbs, ytx_3 ht' hcell, zbs, ytx_4 ht' hcell, zbs, xl_c d x _ _ hv, zbs, hmv, zbs]
        refine ⟨d, u, rfl, ?_, Nat.le_refl _, fun b _ _ => rfl, fun k b hk h => Or.inr ⟨k, hk, h⟩⟩
        exact yB_0 (fun j k hj => by rw [u2_k hj, u2_k hj]) hY1
      · rw [if_pos (nI_lt (by omega) (by omega)), if_neg h2]
        exact ⟨d, u, rfl, hY1, Nat.le_refl _, fun b _ _ => rfl, fun k b hk h => Or.inr ⟨k, hk, h⟩⟩
end YC
