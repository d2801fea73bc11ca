/-! Constructors: a heap with cells added at its end. -/
def zh (σ : za_h) (t : List za_c) : za_h := (fun a => if a < σ.2 then σ.1 a else t[a - σ.2]?, σ.2 + t.length)
section ZH
variable {σ : za_h} {t s : List za_c} {c : za_c} {a i k ci : Nat}
theorem zh_lo (h : a < σ.2) : (zh σ t).1 a = σ.1 a := by show (if a < σ.2 then _ else _) = _; rw [if_pos h]
theorem zh_at (ha : a = σ.2 + i) (h : t[i]? = some c) : (zh σ t).1 a = some c := by
  subst ha
  show (if σ.2 + i < σ.2 then _ else t[σ.2 + i - σ.2]?) = _
  rw [if_neg (by omega), show σ.2 + i - σ.2 = i by omega, h]
theorem zh_zh : zh (zh σ t) s = zh σ (t ++ s) := by
  refine Prod.ext ?_ ?_
  · funext a
    show (if a < σ.2 + t.length then (if a < σ.2 then σ.1 a else t[a - σ.2]?) else s[a - (σ.2 + t.length)]?) = if a < σ.2 then σ.1 a else (t ++ s)[a - σ.2]?
    by_cases h1 : a < σ.2
    · rw [if_pos (by omega), if_pos h1, if_pos h1]
    · rw [if_neg h1, if_neg h1, List.getElem?_append]
      by_cases h2 : a < σ.2 + t.length
      · rw [if_pos h2, if_pos (by omega)]
      · rw [if_neg h2, if_neg (by omega), show a - (σ.2 + t.length) = a - σ.2 - t.length by omega]
  · show σ.2 + t.length + s.length = σ.2 + (t ++ s).length
    rw [List.length_append]; omega
theorem zh_n : za_n (zh σ t) c = zh σ (t ++ [c]) := by
  refine Prod.ext ?_ ?_
  · funext a
    show (if a = σ.2 + t.length then some c else if a < σ.2 then σ.1 a else t[a - σ.2]?) = if a < σ.2 then σ.1 a else (t ++ [c])[a - σ.2]?
    by_cases h1 : a < σ.2
    · rw [if_neg (by omega), if_pos h1, if_pos h1]
    · rw [if_neg h1, if_neg h1, List.getElem?_append]
      by_cases h2 : a = σ.2 + t.length
      · rw [if_pos h2, if_neg (by omega), show a - σ.2 - t.length = 0 by omega]; rfl
      · rw [if_neg h2]
        by_cases h3 : a - σ.2 < t.length
        · rw [if_pos h3]
        · rw [if_neg h3, List.getElem?_eq_none (by omega), List.getElem?_eq_none (by show 1 ≤ _; omega)]
  · show σ.2 + t.length + 1 = σ.2 + (t ++ [c]).length
    rw [List.length_append]; rfl
theorem zh_n1 : za_n (zh σ t) c = zh (zh σ t) [c] := by rw [zh_n, zh_zh]
theorem zh_w (ha : a = σ.2 + i) (hi : i < t.length) : za_w (zh σ t) a c = zh σ (t.set i c) := by
  subst ha
  refine Prod.ext ?_ ?_
  · funext b
    show (if b = σ.2 + i then some c else if b < σ.2 then σ.1 b else t[b - σ.2]?) = if b < σ.2 then σ.1 b else (t.set i c)[b - σ.2]?
    by_cases h1 : b < σ.2
    · rw [if_neg (by omega), if_pos h1, if_pos h1]
    · rw [if_neg h1, if_neg h1, List.getElem?_set]
      by_cases h2 : b = σ.2 + i
      · rw [if_pos h2, if_pos (by omega), if_pos (by omega)]
      · rw [if_neg h2, if_neg (by omega)]
  · show σ.2 + t.length = σ.2 + (t.set i c).length
    rw [List.length_set]
theorem zh_lt (h : t[i]? = some c) : i < t.length := by
  by_cases hi : i < t.length
  · exact hi
  · rw [List.getElem?_eq_none (by omega)] at h; cases h
theorem zh_p {fs : List Value} {v : Value} (ha : a = σ.2 + i) (h : t[i]? = some (.inr (ci, fs))) (hk : k < fs.length) : zp_f (zh σ t) a ci k v = some (zh σ (t.set i (.inr (ci, fs.set k v)))) := by
  unfold zp_f
  rw [zh_at ha h]
  show (if ci = ci ∧ k < fs.length then _ else _) = _
  rw [if_pos ⟨rfl, hk⟩, zh_w ha (zh_lt h)]
theorem zh_q {t' : List za_c} {fs : List Value} {v : Value} (ha : a = σ.2 + i) (h : t[i]? = some (.inr (ci, fs))) (hk : k < fs.length) (hr : t.set i (.inr (ci, fs.set k v)) = t') : zp_f (zh σ t) a ci k v = some (zh σ t') := by rw [zh_p ha h hk, hr]
theorem zh_gr {fs : List Value} {b : Nat} (ha : a = σ.2 + i) (h : t[i]? = some (.inr (ci, fs))) (hk : fs[k]? = some (.ref b)) : zg_r (zh σ t) a ci k = some b := by
  unfold zg_r zg_f
  rw [zh_at ha h]
  show (match (if ci = ci then fs[k]? else none) with | some (.ref b) => some b | _ => none) = _
  rw [if_pos rfl, hk]
theorem zh_gc {fs : List Value} (ha : a = σ.2 + i) (h : t[i]? = some (.inr (ci, fs))) : zg_c (zh σ t) a ci = some () := by
  unfold zg_c
  rw [zh_at ha h]
  show (if ci = ci then some () else none) = _
  rw [if_pos rfl]
theorem zh_st {f : Nat → Int32} {u n j : Nat} {y : Int32} (ha : a = σ.2 + i) (h : t[i]? = some (.inl (u, n, .inl f))) (hj : j < n) (hn : n < 2 ^ 31) : za_st (zh σ t) a u (nI j) y = some (zh σ (t.set i (.inl (u, n, .inl (upd f j y))))) := by
  unfold za_st
  rw [zh_at ha h]
  show (if u = u ∧ ¬ (nI j < 0 ∨ n ≤ (nI j).toNatClampNeg) then _ else _) = _
  rw [if_pos ⟨rfl, zn_in hj hn⟩, nI_clamp (by omega), zh_w ha (zh_lt h)]
theorem zh_t {t' : List za_c} {f : Nat → Int32} {u n j : Nat} {y : Int32} (ha : a = σ.2 + i) (h : t[i]? = some (.inl (u, n, .inl f))) (hj : j < n) (hn : n < 2 ^ 31) (hr : t.set i (.inl (u, n, .inl (upd f j y))) = t') : za_st (zh σ t) a u (nI j) y = some (zh σ t') := by rw [zh_st ha h hj hn, hr]
theorem zh_sq {f : Nat → Option Nat} {u n j b : Nat} (ha : a = σ.2 + i) (h : t[i]? = some (.inl (u, n, .inr f))) (hj : j < n) (hn : n < 2 ^ 31) (hb : zg_c (zh σ t) b ci = some ()) : za_sq (zh σ t) a u ci (nI j) (some b) = some (zh σ (t.set i (.inl (u, n, .inr (va_up f j (some b)))))) := by
  unfold za_sq
  rw [zh_at ha h]
  show (if u = u ∧ ¬ (nI j < 0 ∨ n ≤ (nI j).toNatClampNeg) ∧ (zg_c (zh σ t) b ci).isSome = true then _ else _) = _
  rw [if_pos ⟨rfl, zn_in hj hn, by rw [hb]; rfl⟩, nI_clamp (by omega), zh_w ha (zh_lt h)]
theorem zh_u {t' : List za_c} {f : Nat → Option Nat} {u n j b : Nat} (ha : a = σ.2 + i) (h : t[i]? = some (.inl (u, n, .inr f))) (hj : j < n) (hn : n < 2 ^ 31) (hb : zg_c (zh σ t) b ci = some ()) (hr : t.set i (.inl (u, n, .inr (va_up f j (some b)))) = t') : za_sq (zh σ t) a u ci (nI j) (some b) = some (zh σ t') := by rw [zh_sq ha h hj hn hb, hr]
end ZH
/-- cells as they are made -/
def c5 : za_c := .inl (0, 5, .inl (fun _ => 0))
def cS (v q b c : Nat) : za_c := .inr (7, [.int (nI v), .ref q, .int 0, .int 0, .ref b, .ref c])
def cA (v s tv a : Nat) : za_c := .inr (1, [.int (nI v), .int (nI s), .ref tv, .ref (a + 1), .ref (a + 4), .ref (a + 7), .int 0, .int 0, .int 0, .int 0, .int 0])
def cAs (v s q tv a : Nat) : List za_c := [cA v s tv a, cS v q (a + 2) (a + 3), c5, c5, cS v q (a + 5) (a + 6), c5, c5, cS v q (a + 8) (a + 9), c5, c5]
section ZM
variable {σ : za_h} {v s q tv tq : Nat}
theorem mk_S : zf_Statements_init σ.2 (nI v) q (zh σ [.inr (7, [.int 0, .null, .int 0, .int 0, .null, .null])]) = some ((), zh σ [cS v q (σ.2 + 1) (σ.2 + 2), c5, c5]) := by
  have e1 : zp_f (zh σ [.inr (7, [.int 0, .null, .int 0, .int 0, .null, .null])]) σ.2 7 0 (.int (nI v)) = some (zh σ [.inr (7, [.int (nI v), .null, .int 0, .int 0, .null, .null])]) := zh_q (i := 0) rfl rfl (Nat.le_of_ble_eq_true rfl) rfl
  have e2 : zp_f (zh σ [.inr (7, [.int (nI v), .null, .int 0, .int 0, .null, .null])]) σ.2 7 1 (.ref q) = some (zh σ [.inr (7, [.int (nI v), .ref q, .int 0, .int 0, .null, .null])]) := zh_q (i := 0) rfl rfl (Nat.le_of_ble_eq_true rfl) rfl
  have e3 : zp_f (za_n (zh σ [.inr (7, [.int (nI v), .ref q, .int 0, .int 0, .null, .null])]) (.inl (0, 5, .inl (fun _ => 0)))) σ.2 7 4 (.ref (zh σ [.inr (7, [.int (nI v), .ref q, .int 0, .int 0, .null, .null])]).2) = some (zh σ [.inr (7, [.int (nI v), .ref q, .int 0, .int 0, .ref (σ.2 + 1), .null]), c5]) := by
    rw [zh_n]
    exact zh_q (i := 0) rfl rfl (Nat.le_of_ble_eq_true rfl) rfl
  have e4 : zp_f (za_n (zh σ [.inr (7, [.int (nI v), .ref q, .int 0, .int 0, .ref (σ.2 + 1), .null]), c5]) (.inl (0, 5, .inl (fun _ => 0)))) σ.2 7 5 (.ref (zh σ [.inr (7, [.int (nI v), .ref q, .int 0, .int 0, .ref (σ.2 + 1), .null]), c5]).2) = some (zh σ [cS v q (σ.2 + 1) (σ.2 + 2), c5, c5]) := by
    rw [zh_n]
    exact zh_q (i := 0) rfl rfl (Nat.le_of_ble_eq_true rfl) rfl
  unfold zf_Statements_init
  rw [e1, zbs, e2, zbs, e3, zbs, e4, zbs]
def cAk (v s tv : Nat) (r : List Value) : za_c := .inr (1, [.int (nI v), .int (nI s), .ref tv] ++ r ++ [.int 0, .int 0, .int 0, .int 0, .int 0])
theorem mk_A (hq : q < σ.2) (hq1 : σ.1 q = some (.inr (6, [.ref tq]))) (ht : tq < σ.2) {g : Nat → Option Nat} (ht1 : σ.1 tq = some (.inl (7, 5, .inr g))) (hv : v < 5) (hg : g v = some tv) : zf_Agreement_init σ.2 (nI v) (nI s) q (zh σ [.inr (1, [.int 0, .int 0, .null, .null, .null, .null, .int 0, .int 0, .int 0, .int 0, .int 0])]) = some ((), zh σ (cAs v s q tv σ.2)) := by
  have e1 : zp_f (zh σ [.inr (1, [.int 0, .int 0, .null, .null, .null, .null, .int 0, .int 0, .int 0, .int 0, .int 0])]) σ.2 1 0 (.int (nI v)) = some (zh σ [.inr (1, [.int (nI v), .int 0, .null, .null, .null, .null, .int 0, .int 0, .int 0, .int 0, .int 0])]) := zh_q (i := 0) rfl rfl (Nat.le_of_ble_eq_true rfl) rfl
  have e2 : zp_f (zh σ [.inr (1, [.int (nI v), .int 0, .null, .null, .null, .null, .int 0, .int 0, .int 0, .int 0, .int 0])]) σ.2 1 1 (.int (nI s)) = some (zh σ [.inr (1, [.int (nI v), .int (nI s), .null, .null, .null, .null, .int 0, .int 0, .int 0, .int 0, .int 0])]) := zh_q (i := 0) rfl rfl (Nat.le_of_ble_eq_true rfl) rfl
  have e3 : zg_r (zh σ [.inr (1, [.int (nI v), .int (nI s), .null, .null, .null, .null, .int 0, .int 0, .int 0, .int 0, .int 0])]) q 6 0 = some tq := by
    unfold zg_r zg_f
    rw [zh_lo hq, hq1]; rfl
  have e4 : za_ln (zh σ [.inr (1, [.int (nI v), .int (nI s), .null, .null, .null, .null, .int 0, .int 0, .int 0, .int 0, .int 0])]) tq 7 (nI v) = some tv := by
    unfold za_ln za_lq
    rw [zh_lo ht, ht1]
    show (match (if 7 = 7 ∧ ¬ (nI v < 0 ∨ 5 ≤ (nI v).toNatClampNeg) then some (g (nI v).toNatClampNeg) else none) with | some (some b) => some b | _ => none) = _
    rw [if_pos ⟨rfl, zn_in hv (by decide)⟩, nI_clamp (by omega), hg]
  have e5 : zp_f (zh σ [.inr (1, [.int (nI v), .int (nI s), .null, .null, .null, .null, .int 0, .int 0, .int 0, .int 0, .int 0])]) σ.2 1 2 (.ref tv) = some (zh σ [cAk v s tv [.null, .null, .null]]) := zh_q (i := 0) rfl rfl (Nat.le_of_ble_eq_true rfl) rfl
  have e6 : zf_Statements_init (zh σ [cAk v s tv [.null, .null, .null]]).2 (nI v) q (za_n (zh σ [cAk v s tv [.null, .null, .null]]) (.inr (7, [.int 0, .null, .int 0, .int 0, .null, .null]))) = some ((), zh σ [cAk v s tv [.null, .null, .null], cS v q (σ.2 + 2) (σ.2 + 3), c5, c5]) := by
    rw [zh_n1, mk_S, zh_zh]; rfl
  have e7 : zp_f (zh σ [cAk v s tv [.null, .null, .null], cS v q (σ.2 + 2) (σ.2 + 3), c5, c5]) σ.2 1 3 (.ref (zh σ [cAk v s tv [.null, .null, .null]]).2) = some (zh σ [cAk v s tv [.ref (σ.2 + 1), .null, .null], cS v q (σ.2 + 2) (σ.2 + 3), c5, c5]) := zh_q (i := 0) rfl rfl (Nat.le_of_ble_eq_true rfl) rfl
  have e8 : zf_Statements_init (zh σ [cAk v s tv [.ref (σ.2 + 1), .null, .null], cS v q (σ.2 + 2) (σ.2 + 3), c5, c5]).2 (nI v) q (za_n (zh σ [cAk v s tv [.ref (σ.2 + 1), .null, .null], cS v q (σ.2 + 2) (σ.2 + 3), c5, c5]) (.inr (7, [.int 0, .null, .int 0, .int 0, .null, .null]))) = some ((), zh σ [cAk v s tv [.ref (σ.2 + 1), .null, .null], cS v q (σ.2 + 2) (σ.2 + 3), c5, c5, cS v q (σ.2 + 5) (σ.2 + 6), c5, c5]) := by
    rw [zh_n1, mk_S, zh_zh]; rfl
  have e9 : zp_f (zh σ [cAk v s tv [.ref (σ.2 + 1), .null, .null], cS v q (σ.2 + 2) (σ.2 + 3), c5, c5, cS v q (σ.2 + 5) (σ.2 + 6), c5, c5]) σ.2 1 4 (.ref (zh σ [cAk v s tv [.ref (σ.2 + 1), .null, .null], cS v q (σ.2 + 2) (σ.2 + 3), c5, c5]).2) = some (zh σ [cAk v s tv [.ref (σ.2 + 1), .ref (σ.2 + 4), .null], cS v q (σ.2 + 2) (σ.2 + 3), c5, c5, cS v q (σ.2 + 5) (σ.2 + 6), c5, c5]) := zh_q (i := 0) rfl rfl (Nat.le_of_ble_eq_true rfl) rfl
  have e10 : zf_Statements_init (zh σ [cAk v s tv [.ref (σ.2 + 1), .ref (σ.2 + 4), .null], cS v q (σ.2 + 2) (σ.2 + 3), c5, c5, cS v q (σ.2 + 5) (σ.2 + 6), c5, c5]).2 (nI v) q (za_n (zh σ [cAk v s tv [.ref (σ.2 + 1), .ref (σ.2 + 4), .null], cS v q (σ.2 + 2) (σ.2 + 3), c5, c5, cS v q (σ.2 + 5) (σ.2 + 6), c5, c5]) (.inr (7, [.int 0, .null, .int 0, .int 0, .null, .null]))) = some ((), zh σ [cAk v s tv [.ref (σ.2 + 1), .ref (σ.2 + 4), .null], cS v q (σ.2 + 2) (σ.2 + 3), c5, c5, cS v q (σ.2 + 5) (σ.2 + 6), c5, c5, cS v q (σ.2 + 8) (σ.2 + 9), c5, c5]) := by
    rw [zh_n1, mk_S, zh_zh]; rfl
  have e11 : zp_f (zh σ [cAk v s tv [.ref (σ.2 + 1), .ref (σ.2 + 4), .null], cS v q (σ.2 + 2) (σ.2 + 3), c5, c5, cS v q (σ.2 + 5) (σ.2 + 6), c5, c5, cS v q (σ.2 + 8) (σ.2 + 9), c5, c5]) σ.2 1 5 (.ref (zh σ [cAk v s tv [.ref (σ.2 + 1), .ref (σ.2 + 4), .null], cS v q (σ.2 + 2) (σ.2 + 3), c5, c5, cS v q (σ.2 + 5) (σ.2 + 6), c5, c5]).2) = some (zh σ (cAs v s q tv σ.2)) := zh_q (i := 0) rfl rfl (Nat.le_of_ble_eq_true rfl) rfl
  unfold zf_Agreement_init
  rw [e1, zbs, e2, zbs, e3, zbs, e4, zbs, e5, zbs, e6, zbs]
  dsimp only
  rw [e7, zbs, e8, zbs]
  dsimp only
  rw [e9, zbs, e10, zbs]
  dsimp only
  rw [e11, zbs]
end ZM
