/-! Constructors: the class whole. -/
def cB (x fa v : Nat) : List za_c := (List.range (36 * v)).map fun w => zx_c x (yT0 fa) yU0 (9 + w)
def cP (x fa v : Nat) (r : List za_c) : List za_c := .inr (0, [.int (nI fa), .ref (x + 1), .ref (x + 8), .null, .null, .int 0, .int 0]) :: .inr (6, [.ref (x + 2)]) :: cQr (x + 1) 5 :: cT :: cT :: cT :: cT :: cT :: .inl (4, 5, .inr (fr (fun u => x + qN u) v)) :: r
section ZTI
variable {x fa : Nat}
theorem cB_len {v : Nat} : (cB x fa v).length = 36 * v := by unfold cB; rw [List.length_map, List.length_range]
theorem cB_s {v : Nat} (hv : v < 5) : cB x fa v ++ cNs v (x + 1) (x + (3 + v)) (x + (9 + 36 * v)) = cB x fa (v + 1) := by
  apply List.ext_getElem?
  intro i
  have e : ∀ v i, i < 36 * v → (cB x fa v)[i]? = some (zx_c x (yT0 fa) yU0 (9 + i)) := by
    intro v i hi
    unfold cB
    rw [List.getElem?_map, List.getElem?_range hi]; rfl
  rw [List.getElem?_append]
  by_cases h1 : i < 36 * v
  · rw [if_pos (by rw [cB_len]; exact h1), e v i h1, e (v + 1) i (by omega)]
  · rw [if_neg (by rw [cB_len]; exact h1), cB_len]
    by_cases h2 : i < 36 * (v + 1)
    · rw [e (v + 1) i h2, cN_at (fa := fa) hv (i - 36 * v) (by omega), show 9 + 36 * v + (i - 36 * v) = 9 + i by omega]
    · rw [List.getElem?_eq_none (by show 36 ≤ _; omega), List.getElem?_eq_none (by rw [cB_len]; omega)]
theorem mk_TL35 : ∀ n v fu, v + n = 5 → n < fu → zf_TL_init_35 fu x (x + 1) (nI v) (zh (fun _ => none, x) (cP x fa v (cB x fa v))) = zf_TL_init_35 1 x (x + 1) (nI 5) (zh (fun _ => none, x) (cP x fa 5 (cB x fa 5))) := by
  intro n
  induction n with
  | zero =>
    intro v fu hv hf
    obtain ⟨fu, rfl⟩ : ∃ q, fu = q + 1 := ⟨fu - 1, by omega⟩
    obtain rfl : v = 5 := by omega
    rw [zf_TL_init_35, if_pos (Int32.le_refl _), zf_TL_init_35, if_pos (Int32.le_refl _)]
  | succ n ih =>
    intro v fu hv hf
    obtain ⟨fu, rfl⟩ : ∃ q, fu = q + 1 := ⟨fu - 1, by omega⟩
    have hv5 : v < 5 := by omega
    have l : (zh (fun _ => none, x) (cP x fa v (cB x fa v))).2 = x + (9 + 36 * v) := by
      show x + (cP x fa v (cB x fa v)).length = _
      unfold cP
      simp only [List.length_cons, cB_len]
      omega
    have r : zg_r (zh (fun _ => none, x) (cP x fa v (cB x fa v))) x 0 2 = some (x + 8) := zh_gr (σ := (fun _ => none, x)) (i := 0) rfl rfl rfl
    have e : zf_Node_init (zh (fun _ => none, x) (cP x fa v (cB x fa v))).2 (nI v) (x + 1) (za_n (zh (fun _ => none, x) (cP x fa v (cB x fa v))) (.inr (4, [.null, .null, .int 0, .int 0]))) = some ((), zh (fun _ => none, x) (cP x fa v (cB x fa (v + 1)))) := by
      rw [zh_n1, mk_N (σ := zh (fun _ => none, x) (cP x fa v (cB x fa v))) (tq := x + 2) (tv := x + (3 + v)) (g := fr (fun u => x + 1 + 2 + u) 5) (by omega) (zh_at (σ := (fun _ => none, x)) (i := 1) rfl rfl) (by omega) (zh_at (σ := (fun _ => none, x)) (i := 2) rfl rfl) hv5 (by unfold fr; rw [if_pos hv5]; show some (x + 1 + 2 + v) = _; rw [show x + 1 + 2 + v = x + (3 + v) by omega]), zh_zh, l, ← cB_s hv5]
      rfl
    have s : za_sq (zh (fun _ => none, x) (cP x fa v (cB x fa (v + 1)))) (x + 8) 4 4 (nI v) (some (x + (9 + 36 * v))) = some (zh (fun _ => none, x) (cP x fa (v + 1) (cB x fa (v + 1)))) := by
      refine zh_u (σ := (fun _ => none, x)) (i := 8) rfl rfl hv5 (by decide) (zh_gc (σ := (fun _ => none, x)) (i := 9 + 36 * v) (fs := [.ref (x + (9 + 36 * v) + 1), .ref (x + (9 + 36 * v) + 32), .int 0, .int 0]) rfl ?_) ?_
      · rw [show 9 + 36 * v = 36 * v + 9 by omega]
        show (cB x fa (v + 1))[36 * v]? = _
        rw [← cB_s hv5, List.getElem?_append_right (by rw [cB_len]; omega), cB_len, Nat.sub_self, show 36 * v + 9 = 9 + 36 * v by omega]
        rfl
      · unfold cP
        rw [← fr_s (k := v), show qN v = 9 + 36 * v from rfl]
        rfl
    rw [zf_TL_init_35, if_neg (nI_ge hv5 (by decide)), r, zbs, e, zbs]
    dsimp only
    rw [l, s, zbs, nI_add]
    exact ih (v + 1) fu (by omega) (by omega)
def cF (x fa : Nat) : List za_c := .inr (0, [.int (nI fa), .ref (x + 1), .ref (x + 8), .ref (x + 189), .ref (x + 190), .int 0, .int 0]) :: .inr (6, [.ref (x + 2)]) :: cQr (x + 1) 5 :: cT :: cT :: cT :: cT :: cT :: .inl (4, 5, .inr (fr (fun u => x + qN u) 5)) :: (cB x fa 5 ++ [.inl (6, 9, .inr (fun _ => none)), .inl (3, 120, .inr (fun _ => none))])
theorem mk_TL {y : Int32} (hy : y &&& nI 31 = nI fa) : zf_TL_init x y (za_n (fun _ => none, x) (.inr (0, [.int 0, .null, .null, .null, .null, .int 0, .int 0]))) = some ((), zh (fun _ => none, x) (cF x fa)) := by
  have e0 : za_n (fun _ => none, x) (.inr (0, [.int 0, .null, .null, .null, .null, .int 0, .int 0])) = zh (fun _ => none, x) [.inr (0, [.int 0, .null, .null, .null, .null, .int 0, .int 0])] := by
    have : ((fun _ => none, x) : za_h) = zh (fun _ => none, x) [] := by
      refine Prod.ext ?_ rfl
      funext a
      show none = if a < x then none else ([] : List za_c)[a - x]?
      split
      · rfl
      · rfl
    exact (congrArg (fun h => za_n h (.inr (0, [.int 0, .null, .null, .null, .null, .int 0, .int 0]))) this).trans zh_n
  have e1 : zp_f (zh (fun _ => none, x) [.inr (0, [.int 0, .null, .null, .null, .null, .int 0, .int 0])]) x 0 0 (.int (nI fa)) = some (zh (fun _ => none, x) [.inr (0, [.int (nI fa), .null, .null, .null, .null, .int 0, .int 0])]) := zh_q (σ := (fun _ => none, x)) (i := 0) rfl rfl (Nat.le_of_ble_eq_true rfl) rfl
  have e2 : zf_Quorums_init (zh (fun _ => none, x) [.inr (0, [.int (nI fa), .null, .null, .null, .null, .int 0, .int 0])]).2 (za_n (zh (fun _ => none, x) [.inr (0, [.int (nI fa), .null, .null, .null, .null, .int 0, .int 0])]) (.inr (6, [.null]))) = some ((), zh (fun _ => none, x) (.inr (0, [.int (nI fa), .null, .null, .null, .null, .int 0, .int 0]) :: cQs (x + 1))) := by
    rw [zh_n1, mk_Q, zh_zh]; rfl
  have e3 : zp_f (zh (fun _ => none, x) (.inr (0, [.int (nI fa), .null, .null, .null, .null, .int 0, .int 0]) :: cQs (x + 1))) x 0 1 (.ref (zh (fun _ => none, x) [.inr (0, [.int (nI fa), .null, .null, .null, .null, .int 0, .int 0])]).2) = some (zh (fun _ => none, x) (.inr (0, [.int (nI fa), .ref (x + 1), .null, .null, .null, .int 0, .int 0]) :: cQs (x + 1))) := zh_q (σ := (fun _ => none, x)) (i := 0) rfl rfl (Nat.le_of_ble_eq_true rfl) rfl
  have f0 : (fun _ => none : Nat → Option Nat) = fr (fun u => x + qN u) 0 := by funext j; unfold fr; rw [if_neg (by omega)]
  have e4 : zp_f (za_n (zh (fun _ => none, x) (.inr (0, [.int (nI fa), .ref (x + 1), .null, .null, .null, .int 0, .int 0]) :: cQs (x + 1))) (.inl (4, 5, .inr (fun _ => none)))) x 0 2 (.ref (zh (fun _ => none, x) (.inr (0, [.int (nI fa), .ref (x + 1), .null, .null, .null, .int 0, .int 0]) :: cQs (x + 1))).2) = some (zh (fun _ => none, x) (cP x fa 0 (cB x fa 0))) := by
    rw [zh_n]
    unfold cP
    rw [← f0]
    exact zh_q (σ := (fun _ => none, x)) (i := 0) rfl rfl (Nat.le_of_ble_eq_true rfl) rfl
  have l5 : (zh (fun _ => none, x) (cP x fa 5 (cB x fa 5))).2 = x + 189 := by
    show x + (cP x fa 5 (cB x fa 5)).length = _
    unfold cP
    simp only [List.length_cons, cB_len]
  have e5 : zp_f (za_n (zh (fun _ => none, x) (cP x fa 5 (cB x fa 5))) (.inl (6, 9, .inr (fun _ => none)))) x 0 3 (.ref (zh (fun _ => none, x) (cP x fa 5 (cB x fa 5))).2) = some (zh (fun _ => none, x) (.inr (0, [.int (nI fa), .ref (x + 1), .ref (x + 8), .ref (x + 189), .null, .int 0, .int 0]) :: .inr (6, [.ref (x + 2)]) :: cQr (x + 1) 5 :: cT :: cT :: cT :: cT :: cT :: .inl (4, 5, .inr (fr (fun u => x + qN u) 5)) :: (cB x fa 5 ++ [.inl (6, 9, .inr (fun _ => none))]))) := by
    rw [zh_n, l5]
    exact zh_q (σ := (fun _ => none, x)) (i := 0) rfl rfl (Nat.le_of_ble_eq_true rfl) rfl
  have l6 : (zh (fun _ => none, x) (.inr (0, [.int (nI fa), .ref (x + 1), .ref (x + 8), .ref (x + 189), .null, .int 0, .int 0]) :: .inr (6, [.ref (x + 2)]) :: cQr (x + 1) 5 :: cT :: cT :: cT :: cT :: cT :: .inl (4, 5, .inr (fr (fun u => x + qN u) 5)) :: (cB x fa 5 ++ [.inl (6, 9, .inr (fun _ => none))]))).2 = x + 190 := by
    show x + (List.length _) = _
    simp only [List.length_cons, List.length_append, cB_len]
    rfl
  have e6 : zp_f (za_n (zh (fun _ => none, x) (.inr (0, [.int (nI fa), .ref (x + 1), .ref (x + 8), .ref (x + 189), .null, .int 0, .int 0]) :: .inr (6, [.ref (x + 2)]) :: cQr (x + 1) 5 :: cT :: cT :: cT :: cT :: cT :: .inl (4, 5, .inr (fr (fun u => x + qN u) 5)) :: (cB x fa 5 ++ [.inl (6, 9, .inr (fun _ => none))]))) (.inl (3, 120, .inr (fun _ => none)))) x 0 4 (.ref (x + 190)) = some (zh (fun _ => none, x) (cF x fa)) := by
    rw [zh_n]
    refine zh_q (σ := (fun _ => none, x)) (i := 0) rfl rfl (Nat.le_of_ble_eq_true rfl) ?_
    unfold cF
    show _ :: _ :: _ :: _ :: _ :: _ :: _ :: _ :: _ :: (cB x fa 5 ++ [.inl (6, 9, .inr (fun _ => none))] ++ [.inl (3, 120, .inr (fun _ => none))]) = _
    rw [List.append_assoc]
    rfl
  unfold zf_TL_init
  rw [e0, hy, e1, zbs, e2, zbs]
  dsimp only
  rw [e3, zbs, e4, zbs, show (zh (fun _ => none, x) [.inr (0, [.int (nI fa), .null, .null, .null, .null, .int 0, .int 0])]).2 = x + 1 from rfl, mk_TL35 5 0 6 (by decide) (by decide), zf_TL_init_35, if_pos (Int32.le_refl _), e5, zbs, l6, e6, zbs]
theorem cF_zx : zh (fun _ => none, x) (cF x fa) = zx (fun _ => none, x + 191) x (yT0 fa) yU0 := by
  have len : (cF x fa).length = 191 := by
    unfold cF
    simp only [List.length_cons, List.length_append, cB_len]
    rfl
  refine Prod.ext ?_ ?_
  · funext a
    show (if a < x then none else (cF x fa)[a - x]?) = if x ≤ a ∧ a < x + 191 then some (zx_c x (yT0 fa) yU0 (a - x)) else none
    by_cases h1 : a < x
    · rw [if_pos h1, if_neg (by omega)]
    · rw [if_neg h1]
      by_cases h2 : a < x + 191
      · rw [if_pos ⟨by omega, h2⟩]
        obtain ⟨q, rfl⟩ : ∃ q, a = x + q := ⟨a - x, by omega⟩
        rw [show x + q - x = q by omega]
        by_cases h9 : q < 9
        · have eR : fr (fun u => x + 1 + 2 + u) 5 = fun v => if v < 5 then some (x + (3 + v)) else none := by
            funext v
            unfold fr
            by_cases h : v < 5
            · rw [if_pos h, if_pos h]
              show some (x + 1 + 2 + v) = _
              rw [show x + 1 + 2 + v = x + (3 + v) by omega]
            · rw [if_neg h, if_neg h]
          rcases (show q = 0 ∨ q = 1 ∨ q = 2 ∨ q = 3 ∨ q = 4 ∨ q = 5 ∨ q = 6 ∨ q = 7 ∨ q = 8 by omega) with rfl | rfl | rfl | rfl | rfl | rfl | rfl | rfl | rfl
          · rfl
          · rfl
          · show (some (.inl (7, 5, .inr (fr (fun u => x + 1 + 2 + u) 5))) : Option za_c) = _
            rw [eR]
            rfl
          · rfl
          · rfl
          · rfl
          · rfl
          · rfl
          · rfl
        · obtain ⟨r, rfl⟩ : ∃ r, q = r + 9 := ⟨q - 9, by omega⟩
          show (cB x fa 5 ++ [.inl (6, 9, .inr (fun _ => none)), .inl (3, 120, .inr (fun _ => none))])[r]? = _
          rw [List.getElem?_append]
          by_cases h3 : r < 180
          · rw [if_pos (by rw [cB_len]; exact h3)]
            unfold cB
            rw [List.getElem?_map, List.getElem?_range (by omega), Nat.add_comm r 9]; rfl
          · rw [if_neg (by rw [cB_len]; exact h3), cB_len]
            rcases (show r = 180 ∨ r = 181 by omega) with rfl | rfl
            · rfl
            · rfl
      · rw [if_neg (by omega), List.getElem?_eq_none (by omega)]
  · show x + (cF x fa).length = x + 191
    rw [len]
end ZTI
