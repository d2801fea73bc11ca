/-! Constructors: quorums, the class. -/
def cT : za_c := .inr (9, [.int (nI 4), .int (nI 31), .int 0, .int 0])
def cQr (a k : Nat) : za_c := .inl (7, 5, .inr (fr (fun u => a + 2 + u) k))
section ZQI
variable {σ : za_h}
theorem mk_T : zf_Trust_init σ.2 (zh σ [.inr (9, [.int 0, .int 0, .int 0, .int 0])]) = some ((), zh σ [cT]) := by
  have e1 : zp_f (zh σ [.inr (9, [.int 0, .int 0, .int 0, .int 0])]) σ.2 9 0 (.int (nI 4)) = some (zh σ [.inr (9, [.int (nI 4), .int 0, .int 0, .int 0])]) := zh_q (i := 0) rfl rfl (Nat.le_of_ble_eq_true rfl) rfl
  have e2 : zp_f (zh σ [.inr (9, [.int (nI 4), .int 0, .int 0, .int 0])]) σ.2 9 1 (.int (nI 31)) = some (zh σ [cT]) := zh_q (i := 0) rfl rfl (Nat.le_of_ble_eq_true rfl) rfl
  unfold zf_Trust_init
  rw [e1, zbs, e2, zbs]
theorem mk_Q14 : ∀ n k fu, k + n = 5 → n < fu → zf_Quorums_init_14 fu σ.2 (nI k) (zh σ ([.inr (6, [.ref (σ.2 + 1)]), cQr σ.2 k] ++ List.replicate k cT)) = some ((), zh σ ([.inr (6, [.ref (σ.2 + 1)]), cQr σ.2 5] ++ List.replicate 5 cT)) := by
  intro n
  induction n with
  | zero =>
    intro k fu hk hf
    obtain ⟨fu, rfl⟩ : ∃ q, fu = q + 1 := ⟨fu - 1, by omega⟩
    obtain rfl : k = 5 := by omega
    rw [zf_Quorums_init_14, if_pos (Int32.le_refl _)]
  | succ n ih =>
    intro k fu hk hf
    obtain ⟨fu, rfl⟩ : ∃ q, fu = q + 1 := ⟨fu - 1, by omega⟩
    have r : zg_r (zh σ ([.inr (6, [.ref (σ.2 + 1)]), cQr σ.2 k] ++ List.replicate k cT)) σ.2 6 0 = some (σ.2 + 1) := zh_gr (i := 0) rfl rfl rfl
    have e2 : (zh σ ([.inr (6, [.ref (σ.2 + 1)]), cQr σ.2 k] ++ List.replicate k cT)).2 = σ.2 + (2 + k) := by
      show σ.2 + ([.inr (6, [.ref (σ.2 + 1)]), cQr σ.2 k] ++ List.replicate k cT).length = _
      rw [List.length_append, List.length_replicate]; rfl
    have e1 : zf_Trust_init (zh σ ([.inr (6, [.ref (σ.2 + 1)]), cQr σ.2 k] ++ List.replicate k cT)).2 (za_n (zh σ ([.inr (6, [.ref (σ.2 + 1)]), cQr σ.2 k] ++ List.replicate k cT)) (.inr (9, [.int 0, .int 0, .int 0, .int 0]))) = some ((), zh σ ([.inr (6, [.ref (σ.2 + 1)]), cQr σ.2 k] ++ List.replicate (k + 1) cT)) := by
      rw [zh_n1, mk_T, zh_zh, List.append_assoc, ← List.replicate_succ']
    have s : za_sq (zh σ ([.inr (6, [.ref (σ.2 + 1)]), cQr σ.2 k] ++ List.replicate (k + 1) cT)) (σ.2 + 1) 7 9 (nI k) (some (σ.2 + (2 + k))) = some (zh σ ([.inr (6, [.ref (σ.2 + 1)]), cQr σ.2 (k + 1)] ++ List.replicate (k + 1) cT)) := by
      refine zh_u (i := 1) rfl rfl (by omega) (by decide) (zh_gc (i := 2 + k) (fs := [.int (nI 4), .int (nI 31), .int 0, .int 0]) rfl ?_) ?_
      · rw [List.getElem?_append_right (by show 2 ≤ 2 + k; omega)]
        show (List.replicate (k + 1) cT)[2 + k - 2]? = _
        rw [show 2 + k - 2 = k by omega, List.getElem?_replicate, if_pos (by omega)]
        rfl
      · unfold cQr
        rw [← fr_s (k := k), show σ.2 + (2 + k) = σ.2 + 2 + k by omega]
        rfl
    rw [zf_Quorums_init_14, if_neg (nI_ge (by omega) (by decide)), r, zbs, e1, zbs]
    dsimp only
    rw [e2, s, zbs, nI_add]
    exact ih (k + 1) fu (by omega) (by omega)
def cQs (a : Nat) : List za_c := [.inr (6, [.ref (a + 1)]), cQr a 5, cT, cT, cT, cT, cT]
theorem mk_Q : zf_Quorums_init σ.2 (zh σ [.inr (6, [.null])]) = some ((), zh σ (cQs σ.2)) := by
  have f0 : (fun _ => none : Nat → Option Nat) = fr (fun u => σ.2 + 2 + u) 0 := by funext j; unfold fr; rw [if_neg (by omega)]
  have e1 : zp_f (za_n (zh σ [.inr (6, [.null])]) (.inl (7, 5, .inr (fun _ => none)))) σ.2 6 0 (.ref (zh σ [.inr (6, [.null])]).2) = some (zh σ ([.inr (6, [.ref (σ.2 + 1)]), cQr σ.2 0] ++ List.replicate 0 cT)) := by
    rw [zh_n]
    unfold cQr
    rw [← f0]
    exact zh_q (i := 0) rfl rfl (Nat.le_of_ble_eq_true rfl) rfl
  unfold zf_Quorums_init
  rw [e1, zbs]
  exact mk_Q14 5 0 6 (by decide) (by decide)
end ZQI
/-- the class's registers at the start -/
def yT0 (fa : Nat) : Nat → Nat → Nat := fun q j => if q = 0 then (if j = 0 then fa else 0) else if q < 3 then 0 else if q < 8 then (if j = 0 then 4 else if j = 1 then 31 else 0) else if q = 8 then 0 else if (q - 9) % 36 = 33 then (if j < 4 then 100 else 0) else if (q - 9) % 36 = 34 then (if j < 4 then 20 else 0) else 0
def yTn (w : Nat) : Nat → Nat := fun j => if w = 33 then (if j < 4 then 100 else 0) else if w = 34 then (if j < 4 then 20 else 0) else 0
theorem yT0_n {fa v w : Nat} (hw : w < 36) : yT0 fa (9 + 36 * v + w) = yTn w := by
  funext j
  unfold yT0 yTn
  rw [if_neg (by omega), if_neg (by omega), if_neg (by omega), if_neg (by omega), show (9 + 36 * v + w - 9) % 36 = w by omega]
def yU0 : Nat → Nat → Option Nat := fun _ _ => none
theorem cN_at {x fa v : Nat} (hv : v < 5) : ∀ w, w < 36 → (cNs v (x + 1) (x + (3 + v)) (x + (9 + 36 * v)))[w]? = some (zx_c x (yT0 fa) yU0 (9 + 36 * v + w)) := by
  have hT := fun w (hw : w < 36) => yT0_n (fa := fa) (v := v) hw
  have f4 : ∀ y, fc y 4 = fun j => nI (if j < 4 then y else 0) := by
    intro y
    funext j
    unfold fc
    by_cases h : j < 4
    · rw [if_pos h, if_pos h]
    · rw [if_neg h, if_neg h]; rfl
  intro w hw
  rcases (show w = 0 ∨ w = 1 ∨ w = 2 ∨ w = 3 ∨ w = 4 ∨ w = 5 ∨ w = 6 ∨ w = 7 ∨ w = 8 ∨ w = 9 ∨ w = 10 ∨ w = 11 ∨ w = 12 ∨ w = 13 ∨ w = 14 ∨ w = 15 ∨ w = 16 ∨ w = 17 ∨ w = 18 ∨ w = 19 ∨ w = 20 ∨ w = 21 ∨ w = 22 ∨ w = 23 ∨ w = 24 ∨ w = 25 ∨ w = 26 ∨ w = 27 ∨ w = 28 ∨ w = 29 ∨ w = 30 ∨ w = 31 ∨ w = 32 ∨ w = 33 ∨ w = 34 ∨ w = 35 by omega) with rfl | rfl | rfl | rfl | rfl | rfl | rfl | rfl | rfl | rfl | rfl | rfl | rfl | rfl | rfl | rfl | rfl | rfl | rfl | rfl | rfl | rfl | rfl | rfl | rfl | rfl | rfl | rfl | rfl | rfl | rfl | rfl | rfl | rfl | rfl | rfl
  · rw [zx_bw hv (by decide), hT 0 (by decide)]; rfl
  · rw [zx_bw hv (by decide)]
    have e : fr (fun s => x + (9 + 36 * v) + 2 + 10 * s) 3 = fun s => if s < 3 then some (x + qA v s) else none := by
      funext s
      unfold fr qA
      by_cases h : s < 3
      · rw [if_pos h, if_pos h]
        show some (x + (9 + 36 * v) + 2 + 10 * s) = _
        rw [show x + (9 + 36 * v) + 2 + 10 * s = x + (9 + 36 * v + 2 + 10 * s) by omega]
      · rw [if_neg h, if_neg h]
    show (some (.inl (2, 3, .inr (fr (fun s => x + (9 + 36 * v) + 2 + 10 * s) 3))) : Option za_c) = _
    rw [e]
    rfl
  · rw [zx_bw hv (by decide), hT 2 (by decide)]; rfl
  · rw [zx_bw hv (by decide), hT 3 (by decide)]; rfl
  · rw [zx_bw hv (by decide), hT 4 (by decide)]; rfl
  · rw [zx_bw hv (by decide), hT 5 (by decide)]; rfl
  · rw [zx_bw hv (by decide), hT 6 (by decide)]; rfl
  · rw [zx_bw hv (by decide), hT 7 (by decide)]; rfl
  · rw [zx_bw hv (by decide), hT 8 (by decide)]; rfl
  · rw [zx_bw hv (by decide), hT 9 (by decide)]; rfl
  · rw [zx_bw hv (by decide), hT 10 (by decide)]; rfl
  · rw [zx_bw hv (by decide), hT 11 (by decide)]; rfl
  · rw [zx_bw hv (by decide), hT 12 (by decide)]; rfl
  · rw [zx_bw hv (by decide), hT 13 (by decide)]; rfl
  · rw [zx_bw hv (by decide), hT 14 (by decide)]; rfl
  · rw [zx_bw hv (by decide), hT 15 (by decide)]; rfl
  · rw [zx_bw hv (by decide), hT 16 (by decide)]; rfl
  · rw [zx_bw hv (by decide), hT 17 (by decide)]; rfl
  · rw [zx_bw hv (by decide), hT 18 (by decide)]; rfl
  · rw [zx_bw hv (by decide), hT 19 (by decide)]; rfl
  · rw [zx_bw hv (by decide), hT 20 (by decide)]; rfl
  · rw [zx_bw hv (by decide), hT 21 (by decide)]; rfl
  · rw [zx_bw hv (by decide), hT 22 (by decide)]; rfl
  · rw [zx_bw hv (by decide), hT 23 (by decide)]; rfl
  · rw [zx_bw hv (by decide), hT 24 (by decide)]; rfl
  · rw [zx_bw hv (by decide), hT 25 (by decide)]; rfl
  · rw [zx_bw hv (by decide), hT 26 (by decide)]; rfl
  · rw [zx_bw hv (by decide), hT 27 (by decide)]; rfl
  · rw [zx_bw hv (by decide), hT 28 (by decide)]; rfl
  · rw [zx_bw hv (by decide), hT 29 (by decide)]; rfl
  · rw [zx_bw hv (by decide), hT 30 (by decide)]; rfl
  · rw [zx_bw hv (by decide), hT 31 (by decide)]; rfl
  · rw [zx_bw hv (by decide), hT 32 (by decide)]; rfl
  · rw [zx_bw hv (by decide), hT 33 (by decide)]
    show (some (.inl (0, 4, .inl (fc 100 4))) : Option za_c) = _
    rw [f4]
    rfl
  · rw [zx_bw hv (by decide), hT 34 (by decide)]
    show (some (.inl (0, 4, .inl (fc 20 4))) : Option za_c) = _
    rw [f4]
    rfl
  · rw [zx_bw hv (by decide), hT 35 (by decide)]; rfl
