/-! Constructors: ledger, node, quorums. -/
def fc (y k : Nat) : Nat → Int32 := fun j => if j < k then nI y else 0
theorem fc_s {y k : Nat} : upd (fc y k) k (nI y) = fc y (k + 1) := by
  funext j
  unfold upd fc
  by_cases h : j = k
  · rw [if_pos h, if_pos (by omega)]
  · rw [if_neg h]
    by_cases h2 : j < k
    · rw [if_pos h2, if_pos (by omega)]
    · rw [if_neg h2, if_neg (by omega)]
def fr (g : Nat → Nat) (k : Nat) : Nat → Option Nat := fun j => if j < k then some (g j) else none
theorem fr_s {g : Nat → Nat} {k : Nat} : va_up (fr g k) k (some (g k)) = fr g (k + 1) := by
  funext j
  unfold va_up fr
  by_cases h : j = k
  · rw [if_pos h, if_pos (by omega), h]
  · rw [if_neg h]
    by_cases h2 : j < k
    · rw [if_pos h2, if_pos (by omega)]
    · rw [if_neg h2, if_neg (by omega)]
def cLk (a k : Nat) : List za_c := [.inr (3, [.ref (a + 1), .ref (a + 2), .null, .int 0]), .inl (0, 4, .inl (fc 100 k)), .inl (0, 4, .inl (fc 20 k))]
def cL (a : Nat) : List za_c := [.inr (3, [.ref (a + 1), .ref (a + 2), .ref (a + 3), .int 0]), .inl (0, 4, .inl (fc 100 4)), .inl (0, 4, .inl (fc 20 4)), .inl (5, 8, .inr (fun _ => none))]
section ZN
variable {σ : za_h} {v s q tv tq : Nat}
theorem mk_L20 : ∀ n j fu, j + n = 4 → n < fu → zf_Ledger_init_20 fu σ.2 (nI j) (zh σ (cLk σ.2 j)) = some ((), zh σ (cL σ.2)) := by
  intro n
  induction n with
  | zero =>
    intro j fu hj hf
    obtain ⟨fu, rfl⟩ : ∃ q, fu = q + 1 := ⟨fu - 1, by omega⟩
    obtain rfl : j = 4 := by omega
    have e : zp_f (za_n (zh σ (cLk σ.2 4)) (.inl (5, 8, .inr (fun _ => none)))) σ.2 3 2 (.ref (zh σ (cLk σ.2 4)).2) = some (zh σ (cL σ.2)) := by
      rw [zh_n]
      exact zh_q (i := 0) rfl rfl (Nat.le_of_ble_eq_true rfl) rfl
    rw [zf_Ledger_init_20, if_pos (Int32.le_refl _), e, zbs]
  | succ n ih =>
    intro j fu hj hf
    obtain ⟨fu, rfl⟩ : ∃ q, fu = q + 1 := ⟨fu - 1, by omega⟩
    have e1 : zg_r (zh σ (cLk σ.2 j)) σ.2 3 0 = some (σ.2 + 1) := zh_gr (i := 0) rfl rfl rfl
    have e2 : za_st (zh σ (cLk σ.2 j)) (σ.2 + 1) 0 (nI j) (nI 100) = some (zh σ [.inr (3, [.ref (σ.2 + 1), .ref (σ.2 + 2), .null, .int 0]), .inl (0, 4, .inl (fc 100 (j + 1))), .inl (0, 4, .inl (fc 20 j))]) := by
      rw [← fc_s]
      exact zh_t (i := 1) rfl rfl (by omega) (by decide) rfl
    have e3 : zg_r (zh σ [.inr (3, [.ref (σ.2 + 1), .ref (σ.2 + 2), .null, .int 0]), .inl (0, 4, .inl (fc 100 (j + 1))), .inl (0, 4, .inl (fc 20 j))]) σ.2 3 1 = some (σ.2 + 2) := zh_gr (i := 0) rfl rfl rfl
    have e4 : za_st (zh σ [.inr (3, [.ref (σ.2 + 1), .ref (σ.2 + 2), .null, .int 0]), .inl (0, 4, .inl (fc 100 (j + 1))), .inl (0, 4, .inl (fc 20 j))]) (σ.2 + 2) 0 (nI j) (nI 20) = some (zh σ (cLk σ.2 (j + 1))) := by
      unfold cLk
      rw [← fc_s (y := 20)]
      exact zh_t (i := 2) rfl rfl (by omega) (by decide) rfl
    rw [zf_Ledger_init_20, if_neg (nI_ge (by omega) (by decide)), e1, zbs, e2, zbs, e3, zbs, e4, zbs, nI_add]
    exact ih (j + 1) fu (by omega) (by omega)
theorem mk_L : zf_Ledger_init σ.2 (zh σ [.inr (3, [.null, .null, .null, .int 0])]) = some ((), zh σ (cL σ.2)) := by
  have e1 : zp_f (za_n (zh σ [.inr (3, [.null, .null, .null, .int 0])]) (.inl (0, 4, .inl (fun _ => 0)))) σ.2 3 0 (.ref (zh σ [.inr (3, [.null, .null, .null, .int 0])]).2) = some (zh σ [.inr (3, [.ref (σ.2 + 1), .null, .null, .int 0]), .inl (0, 4, .inl (fun _ => 0))]) := by
    rw [zh_n]
    exact zh_q (i := 0) rfl rfl (Nat.le_of_ble_eq_true rfl) rfl
  have e2 : zp_f (za_n (zh σ [.inr (3, [.ref (σ.2 + 1), .null, .null, .int 0]), .inl (0, 4, .inl (fun _ => 0))]) (.inl (0, 4, .inl (fun _ => 0)))) σ.2 3 1 (.ref (zh σ [.inr (3, [.ref (σ.2 + 1), .null, .null, .int 0]), .inl (0, 4, .inl (fun _ => 0))]).2) = some (zh σ (cLk σ.2 0)) := by
    rw [zh_n]
    have f1 : fc 100 0 = fun _ => 0 := by funext j; unfold fc; rw [if_neg (by omega)]
    have f2 : fc 20 0 = fun _ => 0 := by funext j; unfold fc; rw [if_neg (by omega)]
    unfold cLk
    rw [f1, f2]
    exact zh_q (i := 0) rfl rfl (Nat.le_of_ble_eq_true rfl) rfl
  unfold zf_Ledger_init
  rw [e1, zbs, e2, zbs]
  exact mk_L20 4 0 6 (by decide) (by decide)
def cNr (a k : Nat) : za_c := .inl (2, 3, .inr (fr (fun s => a + 2 + 10 * s) k))
def cNs (v q tv a : Nat) : List za_c := .inr (4, [.ref (a + 1), .ref (a + 32), .int 0, .int 0]) :: cNr a 3 :: (cAs v 0 q tv (a + 2) ++ (cAs v 1 q tv (a + 12) ++ (cAs v 2 q tv (a + 22) ++ cL (a + 32))))
theorem mk_N (hq : q < σ.2) (hq1 : σ.1 q = some (.inr (6, [.ref tq]))) (ht : tq < σ.2) {g : Nat → Option Nat} (ht1 : σ.1 tq = some (.inl (7, 5, .inr g))) (hv : v < 5) (hg : g v = some tv) : zf_Node_init σ.2 (nI v) q (zh σ [.inr (4, [.null, .null, .int 0, .int 0])]) = some ((), zh σ (cNs v q tv σ.2)) := by
  have f0 : (fun _ => none : Nat → Option Nat) = fr (fun s => σ.2 + 2 + 10 * s) 0 := by funext j; unfold fr; rw [if_neg (by omega)]
  have e1 : zp_f (za_n (zh σ [.inr (4, [.null, .null, .int 0, .int 0])]) (.inl (2, 3, .inr (fun _ => none)))) σ.2 4 0 (.ref (zh σ [.inr (4, [.null, .null, .int 0, .int 0])]).2) = some (zh σ [.inr (4, [.ref (σ.2 + 1), .null, .int 0, .int 0]), cNr σ.2 0]) := by
    rw [zh_n]
    unfold cNr
    rw [← f0]
    exact zh_q (i := 0) rfl rfl (Nat.le_of_ble_eq_true rfl) rfl
  have mkA : ∀ (t : List za_c) (s : Nat), zf_Agreement_init (zh σ t).2 (nI v) (nI s) q (za_n (zh σ t) (.inr (1, [.int 0, .int 0, .null, .null, .null, .null, .int 0, .int 0, .int 0, .int 0, .int 0]))) = some ((), zh σ (t ++ cAs v s q tv (σ.2 + t.length))) := by
    intro t s
    rw [zh_n1, mk_A (σ := zh σ t) (tq := tq) (g := g) (by show q < σ.2 + t.length; omega) (by rw [zh_lo hq]; exact hq1) (by show tq < σ.2 + t.length; omega) (by rw [zh_lo ht]; exact ht1) hv hg, zh_zh]
    rfl
  have r0 : zg_r (zh σ [.inr (4, [.ref (σ.2 + 1), .null, .int 0, .int 0]), cNr σ.2 0]) σ.2 4 0 = some (σ.2 + 1) := zh_gr (i := 0) rfl rfl rfl
  have s0 : za_sq (zh σ ([.inr (4, [.ref (σ.2 + 1), .null, .int 0, .int 0]), cNr σ.2 0] ++ cAs v 0 q tv (σ.2 + 2))) (σ.2 + 1) 2 1 (nI 0) (some (σ.2 + 2)) = some (zh σ ([.inr (4, [.ref (σ.2 + 1), .null, .int 0, .int 0]), cNr σ.2 1] ++ cAs v 0 q tv (σ.2 + 2))) := by
    refine zh_u (i := 1) rfl rfl (by decide) (by decide) (zh_gc (i := 2) rfl rfl) ?_
    unfold cNr
    rw [← fr_s (k := 0)]
    rfl
  have r1 : zg_r (zh σ ([.inr (4, [.ref (σ.2 + 1), .null, .int 0, .int 0]), cNr σ.2 1] ++ cAs v 0 q tv (σ.2 + 2))) σ.2 4 0 = some (σ.2 + 1) := zh_gr (i := 0) rfl rfl rfl
  have s1 : za_sq (zh σ ([.inr (4, [.ref (σ.2 + 1), .null, .int 0, .int 0]), cNr σ.2 1] ++ cAs v 0 q tv (σ.2 + 2) ++ cAs v 1 q tv (σ.2 + 12))) (σ.2 + 1) 2 1 (nI 1) (some (σ.2 + 12)) = some (zh σ ([.inr (4, [.ref (σ.2 + 1), .null, .int 0, .int 0]), cNr σ.2 2] ++ cAs v 0 q tv (σ.2 + 2) ++ cAs v 1 q tv (σ.2 + 12))) := by
    refine zh_u (i := 1) rfl rfl (by decide) (by decide) (zh_gc (i := 12) rfl rfl) ?_
    unfold cNr
    rw [← fr_s (k := 1)]
    rfl
  have r2 : zg_r (zh σ ([.inr (4, [.ref (σ.2 + 1), .null, .int 0, .int 0]), cNr σ.2 2] ++ cAs v 0 q tv (σ.2 + 2) ++ cAs v 1 q tv (σ.2 + 12))) σ.2 4 0 = some (σ.2 + 1) := zh_gr (i := 0) rfl rfl rfl
  have s2 : za_sq (zh σ ([.inr (4, [.ref (σ.2 + 1), .null, .int 0, .int 0]), cNr σ.2 2] ++ cAs v 0 q tv (σ.2 + 2) ++ cAs v 1 q tv (σ.2 + 12) ++ cAs v 2 q tv (σ.2 + 22))) (σ.2 + 1) 2 1 (nI 2) (some (σ.2 + 22)) = some (zh σ ([.inr (4, [.ref (σ.2 + 1), .null, .int 0, .int 0]), cNr σ.2 3] ++ cAs v 0 q tv (σ.2 + 2) ++ cAs v 1 q tv (σ.2 + 12) ++ cAs v 2 q tv (σ.2 + 22))) := by
    refine zh_u (i := 1) rfl rfl (by decide) (by decide) (zh_gc (i := 22) rfl rfl) ?_
    unfold cNr
    rw [← fr_s (k := 2)]
    rfl
  have l3 : zf_Ledger_init (zh σ ([.inr (4, [.ref (σ.2 + 1), .null, .int 0, .int 0]), cNr σ.2 3] ++ cAs v 0 q tv (σ.2 + 2) ++ cAs v 1 q tv (σ.2 + 12) ++ cAs v 2 q tv (σ.2 + 22))).2 (za_n (zh σ ([.inr (4, [.ref (σ.2 + 1), .null, .int 0, .int 0]), cNr σ.2 3] ++ cAs v 0 q tv (σ.2 + 2) ++ cAs v 1 q tv (σ.2 + 12) ++ cAs v 2 q tv (σ.2 + 22))) (.inr (3, [.null, .null, .null, .int 0]))) = some ((), zh σ ([.inr (4, [.ref (σ.2 + 1), .null, .int 0, .int 0]), cNr σ.2 3] ++ cAs v 0 q tv (σ.2 + 2) ++ cAs v 1 q tv (σ.2 + 12) ++ cAs v 2 q tv (σ.2 + 22) ++ cL (σ.2 + 32))) := by
    rw [zh_n1, mk_L, zh_zh]
    rfl
  have p3 : zp_f (zh σ ([.inr (4, [.ref (σ.2 + 1), .null, .int 0, .int 0]), cNr σ.2 3] ++ cAs v 0 q tv (σ.2 + 2) ++ cAs v 1 q tv (σ.2 + 12) ++ cAs v 2 q tv (σ.2 + 22) ++ cL (σ.2 + 32))) σ.2 4 1 (.ref (zh σ ([.inr (4, [.ref (σ.2 + 1), .null, .int 0, .int 0]), cNr σ.2 3] ++ cAs v 0 q tv (σ.2 + 2) ++ cAs v 1 q tv (σ.2 + 12) ++ cAs v 2 q tv (σ.2 + 22))).2) = some (zh σ (cNs v q tv σ.2)) := zh_q (i := 0) rfl rfl (Nat.le_of_ble_eq_true rfl) rfl
  unfold zf_Node_init
  rw [e1, zbs, zf_Node_init_14, if_neg (by decide), r0, zbs, mkA, zbs]
  dsimp only
  rw [show (zh σ [.inr (4, [.ref (σ.2 + 1), .null, .int 0, .int 0]), cNr σ.2 0]).2 = σ.2 + 2 from rfl]
  show ((za_sq (zh σ ([.inr (4, [.ref (σ.2 + 1), .null, .int 0, .int 0]), cNr σ.2 0] ++ cAs v 0 q tv (σ.2 + 2))) (σ.2 + 1) 2 1 (nI 0) (some (σ.2 + 2))).bind _) = _
  rw [s0, zbs, nI_add, zf_Node_init_14, if_neg (by decide), r1, zbs, mkA, zbs]
  dsimp only
  show ((za_sq (zh σ ([.inr (4, [.ref (σ.2 + 1), .null, .int 0, .int 0]), cNr σ.2 1] ++ cAs v 0 q tv (σ.2 + 2) ++ cAs v 1 q tv (σ.2 + 12))) (σ.2 + 1) 2 1 (nI 1) (some (σ.2 + 12))).bind _) = _
  rw [s1, zbs, nI_add, zf_Node_init_14, if_neg (by decide), r2, zbs, mkA, zbs]
  dsimp only
  show ((za_sq (zh σ ([.inr (4, [.ref (σ.2 + 1), .null, .int 0, .int 0]), cNr σ.2 2] ++ cAs v 0 q tv (σ.2 + 2) ++ cAs v 1 q tv (σ.2 + 12) ++ cAs v 2 q tv (σ.2 + 22))) (σ.2 + 1) 2 1 (nI 2) (some (σ.2 + 22))).bind _) = _
  rw [s2, zbs, nI_add, zf_Node_init_14, if_pos (by decide), l3, zbs]
  dsimp only
  rw [p3, zbs]
end ZN
