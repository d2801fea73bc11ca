/-! The class's static cells as registers: T q j is the number at place j of the cell at offset q; U q j a reference in transactions, mail, a book. Laid by program (wip/whole/clsform.py). -/
def qN (v : Nat) : Nat := 9 + 36 * v
def qA (v s : Nat) : Nat := 9 + 36 * v + 2 + 10 * s
def qS (v s k : Nat) : Nat := 9 + 36 * v + 2 + 10 * s + 1 + 3 * k
def qL (v : Nat) : Nat := 9 + 36 * v + 32
def zx_c (x : Nat) (T : Nat → Nat → Nat) (U : Nat → Nat → Option Nat) (q : Nat) : za_c :=
  if q = 0 then .inr (0, [.int (nI (T 0 0)), .ref (x + 1), .ref (x + 8), .ref (x + 189), .ref (x + 190), .int (nI (T 0 5)), .int (nI (T 0 6))])
  else if q = 1 then .inr (6, [.ref (x + 2)])
  else if q = 2 then .inl (7, 5, .inr (fun v => if v < 5 then some (x + (3 + v)) else none))
  else if q < 8 then .inr (9, [.int (nI (T q 0)), .int (nI (T q 1)), .int (nI (T q 2)), .int (nI (T q 3))])
  else if q = 8 then .inl (4, 5, .inr (fun v => if v < 5 then some (x + qN v) else none))
  else if q = 189 then .inl (6, 9, .inr (U q))
  else if q = 190 then .inl (3, 120, .inr (U q))
  else if (q - 9) % 36 = 0 then .inr (4, [.ref (x + (q + 1)), .ref (x + (q + 32)), .int (nI (T q 2)), .int (nI (T q 3))])
  else if (q - 9) % 36 = 1 then .inl (2, 3, .inr (fun s => if s < 3 then some (x + qA ((q - 9) / 36) s) else none))
  else if (q - 9) % 36 = 32 then .inr (3, [.ref (x + (q + 1)), .ref (x + (q + 2)), .ref (x + (q + 3)), .int (nI (T q 3))])
  else if (q - 9) % 36 = 33 ∨ (q - 9) % 36 = 34 then .inl (0, 4, .inl (fun j => nI (T q j)))
  else if (q - 9) % 36 = 35 then .inl (5, 8, .inr (U q))
  else if ((q - 9) % 36 - 2) % 10 = 0 then .inr (1, [.int (nI ((q - 9) / 36)), .int (nI (((q - 9) % 36 - 2) / 10)), .ref (x + (3 + (q - 9) / 36)), .ref (x + (q + 1)), .ref (x + (q + 4)), .ref (x + (q + 7)), .int (nI (T q 6)), .int (nI (T q 7)), .int (nI (T q 8)), .int (nI (T q 9)), .int (nI (T q 10))])
  else if (((q - 9) % 36 - 2) % 10 - 1) % 3 = 0 then .inr (7, [.int (nI ((q - 9) / 36)), .ref (x + 1), .int (nI (T q 2)), .int (nI (T q 3)), .ref (x + (q + 1)), .ref (x + (q + 2))])
  else .inl (0, 5, .inl (fun j => nI (T q j)))
def zx (d : za_h) (x : Nat) (T : Nat → Nat → Nat) (U : Nat → Nat → Option Nat) : za_h := (fun a => if x ≤ a ∧ a < x + 191 then some (zx_c x T U (a - x)) else d.1 a, d.2)
theorem zx_at {d : za_h} {x q : Nat} {T : Nat → Nat → Nat} {U : Nat → Nat → Option Nat} (h : q < 191) : (zx d x T U).1 (x + q) = some (zx_c x T U q) := by
  have h1 : x ≤ x + q ∧ x + q < x + 191 := by omega
  have h2 : x + q - x = q := by omega
  simp only [zx, if_pos h1, h2]
theorem zx_out {d : za_h} {x a : Nat} {T : Nat → Nat → Nat} {U : Nat → Nat → Option Nat} (h : a < x ∨ x + 191 ≤ a) : (zx d x T U).1 a = d.1 a := by
  have h1 : ¬ (x ≤ a ∧ a < x + 191) := by omega
  simp only [zx, if_neg h1]
theorem zx_2 (d : za_h) (x : Nat) (T : Nat → Nat → Nat) (U : Nat → Nat → Option Nat) : (zx d x T U).2 = d.2 := rfl
/-- a cell depends on its own registers alone -/
theorem zx_c_row {x q : Nat} {T T' : Nat → Nat → Nat} {U U' : Nat → Nat → Option Nat} (h : T q = T' q) (hu : U q = U' q) : zx_c x T U q = zx_c x T' U' q := by
  by_cases h0 : q = 0
  · subst h0; unfold zx_c; rw [if_pos rfl, if_pos rfl, h]
  · unfold zx_c; rw [h, hu, if_neg h0, if_neg h0]
theorem zx_w {d : za_h} {x q : Nat} {T T' : Nat → Nat → Nat} {U U' : Nat → Nat → Option Nat} (hq : q < 191) (h : ∀ r, r ≠ q → T' r = T r) (hu : ∀ r, r ≠ q → U' r = U r) : za_w (zx d x T U) (x + q) (zx_c x T' U' q) = zx d x T' U' := by
  refine Prod.ext ?_ rfl
  funext a
  show (if a = x + q then _ else (zx d x T U).1 a) = (zx d x T' U').1 a
  by_cases ha : a = x + q
  · subst ha; rw [if_pos rfl, zx_at hq]
  · rw [if_neg ha]
    simp only [zx]
    by_cases hr : x ≤ a ∧ a < x + 191
    · rw [if_pos hr, if_pos hr, zx_c_row (h _ (by omega)).symm (hu _ (by omega)).symm]
    · rw [if_neg hr, if_neg hr]
theorem zx_gf {d : za_h} {x q ci k : Nat} {T : Nat → Nat → Nat} {U : Nat → Nat → Option Nat} {fs : List Value} (hq : q < 191) (hc : zx_c x T U q = .inr (ci, fs)) : zg_f (zx d x T U) (x + q) ci k = fs[k]? := by
  unfold zg_f; rw [zx_at hq, hc]; simp
theorem zx_gi {d : za_h} {x q ci k : Nat} {T : Nat → Nat → Nat} {U : Nat → Nat → Option Nat} {fs : List Value} {y : Int32} (hq : q < 191) (hc : zx_c x T U q = .inr (ci, fs)) (hk : fs[k]? = some (.int y)) : zg_i (zx d x T U) (x + q) ci k = some y := by
  unfold zg_i; rw [zx_gf hq hc, hk]
theorem zx_gr {d : za_h} {x q ci k : Nat} {T : Nat → Nat → Nat} {U : Nat → Nat → Option Nat} {fs : List Value} {y : Nat} (hq : q < 191) (hc : zx_c x T U q = .inr (ci, fs)) (hk : fs[k]? = some (.ref y)) : zg_r (zx d x T U) (x + q) ci k = some y := by
  unfold zg_r; rw [zx_gf hq hc, hk]
theorem zx_gc {d : za_h} {x q ci : Nat} {T : Nat → Nat → Nat} {U : Nat → Nat → Option Nat} {fs : List Value} (hq : q < 191) (hc : zx_c x T U q = .inr (ci, fs)) : zg_c (zx d x T U) (x + q) ci = some () := by
  unfold zg_c; rw [zx_at hq, hc]; simp
theorem zx_pf {d : za_h} {x q ci k v : Nat} {T : Nat → Nat → Nat} {U : Nat → Nat → Option Nat} {fs : List Value} (hq : q < 191) (hc : zx_c x T U q = .inr (ci, fs)) (hk : k < fs.length) (hc' : zx_c x (u2 T q k v) U q = .inr (ci, fs.set k (.int (nI v)))) : zp_f (zx d x T U) (x + q) ci k (.int (nI v)) = some (zx d x (u2 T q k v) U) := by
  unfold zp_f
  rw [zx_at hq, hc]
  show (if ci = ci ∧ k < fs.length then _ else _) = _
  rw [if_pos ⟨rfl, hk⟩, ← hc', zx_w hq (fun r hr => u2_row hr) (fun _ _ => rfl)]
theorem zx_ld {d : za_h} {x q t n i : Nat} {T : Nat → Nat → Nat} {U : Nat → Nat → Option Nat} (hq : q < 191) (hc : zx_c x T U q = .inl (t, n, .inl (fun j => nI (T q j)))) (hi : i < n) (hn : n < 2 ^ 31) : za_ld (zx d x T U) (x + q) t (nI i) = some (nI (T q i)) := by
  unfold za_ld
  rw [zx_at hq, hc]
  show (if t = t ∧ ¬ (nI i < 0 ∨ n ≤ (nI i).toNatClampNeg) then _ else _) = _
  rw [if_pos ⟨rfl, zn_in hi hn⟩, nI_clamp (by omega)]
theorem zx_st {d : za_h} {x q t n i v : Nat} {T : Nat → Nat → Nat} {U : Nat → Nat → Option Nat} (hq : q < 191) (hc : ∀ T, zx_c x T U q = .inl (t, n, .inl (fun j => nI (T q j)))) (hi : i < n) (hn : n < 2 ^ 31) : za_st (zx d x T U) (x + q) t (nI i) (nI v) = some (zx d x (u2 T q i v) U) := by
  unfold za_st
  rw [zx_at hq, hc]
  show (if t = t ∧ ¬ (nI i < 0 ∨ n ≤ (nI i).toNatClampNeg) then _ else _) = _
  rw [if_pos ⟨rfl, zn_in hi hn⟩, nI_clamp (by omega)]
  have e : (.inl (t, n, .inl (upd (fun j => nI (T q j)) i (nI v))) : za_c) = zx_c x (u2 T q i v) U q := by
    rw [hc]
    have e1 : upd (fun j => nI (T q j)) i (nI v) = fun j => nI (u2 T q i v q j) := by
      funext j
      by_cases hj : j = i
      · subst hj; simp [upd, u2]
      · simp [upd, u2, hj]
    rw [e1]
  rw [e, zx_w hq (fun r hr => u2_row hr) (fun _ _ => rfl)]
theorem zx_lq {d : za_h} {x q t n i : Nat} {T : Nat → Nat → Nat} {U : Nat → Nat → Option Nat} {g : Nat → Option Nat} (hq : q < 191) (hc : zx_c x T U q = .inl (t, n, .inr g)) (hi : i < n) (hn : n < 2 ^ 31) : za_lq (zx d x T U) (x + q) t (nI i) = some (g i) := by
  unfold za_lq
  rw [zx_at hq, hc]
  show (if t = t ∧ ¬ (nI i < 0 ∨ n ≤ (nI i).toNatClampNeg) then _ else _) = _
  rw [if_pos ⟨rfl, zn_in hi hn⟩, nI_clamp (by omega)]
theorem zx_ln {d : za_h} {x q t n i y : Nat} {T : Nat → Nat → Nat} {U : Nat → Nat → Option Nat} {g : Nat → Option Nat} (hq : q < 191) (hc : zx_c x T U q = .inl (t, n, .inr g)) (hi : i < n) (hn : n < 2 ^ 31) (hg : g i = some y) : za_ln (zx d x T U) (x + q) t (nI i) = some y := by
  unfold za_ln
  rw [zx_lq hq hc hi hn, hg]
/-- which cell stands where -/
theorem zc_TL {x : Nat} {T : Nat → Nat → Nat} {U : Nat → Nat → Option Nat} : zx_c x T U 0 = .inr (0, [.int (nI (T 0 0)), .ref (x + 1), .ref (x + 8), .ref (x + 189), .ref (x + 190), .int (nI (T 0 5)), .int (nI (T 0 6))]) := rfl
theorem zc_Q {x : Nat} {T : Nat → Nat → Nat} {U : Nat → Nat → Option Nat} : zx_c x T U 1 = .inr (6, [.ref (x + 2)]) := rfl
theorem zc_Ts {x : Nat} {T : Nat → Nat → Nat} {U : Nat → Nat → Option Nat} : zx_c x T U 2 = .inl (7, 5, .inr (fun v => if v < 5 then some (x + (3 + v)) else none)) := rfl
theorem zc_T {x v : Nat} {T : Nat → Nat → Nat} {U : Nat → Nat → Option Nat} (hv : v < 5) : zx_c x T U (3 + v) = .inr (9, [.int (nI (T (3 + v) 0)), .int (nI (T (3 + v) 1)), .int (nI (T (3 + v) 2)), .int (nI (T (3 + v) 3))]) := by
  unfold zx_c
  rw [if_neg (by omega), if_neg (by omega), if_neg (by omega), if_pos (by omega)]
theorem zc_Ns {x : Nat} {T : Nat → Nat → Nat} {U : Nat → Nat → Option Nat} : zx_c x T U 8 = .inl (4, 5, .inr (fun v => if v < 5 then some (x + qN v) else none)) := rfl
theorem zc_tx {x : Nat} {T : Nat → Nat → Nat} {U : Nat → Nat → Option Nat} : zx_c x T U 189 = .inl (6, 9, .inr (U 189)) := rfl
theorem zc_ml {x : Nat} {T : Nat → Nat → Nat} {U : Nat → Nat → Option Nat} : zx_c x T U 190 = .inl (3, 120, .inr (U 190)) := rfl
theorem zx_big {x q : Nat} {T : Nat → Nat → Nat} {U : Nat → Nat → Option Nat} (h : 9 ≤ q ∧ q < 189) : zx_c x T U q =
  if (q - 9) % 36 = 0 then .inr (4, [.ref (x + (q + 1)), .ref (x + (q + 32)), .int (nI (T q 2)), .int (nI (T q 3))])
  else if (q - 9) % 36 = 1 then .inl (2, 3, .inr (fun s => if s < 3 then some (x + qA ((q - 9) / 36) s) else none))
  else if (q - 9) % 36 = 32 then .inr (3, [.ref (x + (q + 1)), .ref (x + (q + 2)), .ref (x + (q + 3)), .int (nI (T q 3))])
  else if (q - 9) % 36 = 33 ∨ (q - 9) % 36 = 34 then .inl (0, 4, .inl (fun j => nI (T q j)))
  else if (q - 9) % 36 = 35 then .inl (5, 8, .inr (U q))
  else if ((q - 9) % 36 - 2) % 10 = 0 then .inr (1, [.int (nI ((q - 9) / 36)), .int (nI (((q - 9) % 36 - 2) / 10)), .ref (x + (3 + (q - 9) / 36)), .ref (x + (q + 1)), .ref (x + (q + 4)), .ref (x + (q + 7)), .int (nI (T q 6)), .int (nI (T q 7)), .int (nI (T q 8)), .int (nI (T q 9)), .int (nI (T q 10))])
  else if (((q - 9) % 36 - 2) % 10 - 1) % 3 = 0 then .inr (7, [.int (nI ((q - 9) / 36)), .ref (x + 1), .int (nI (T q 2)), .int (nI (T q 3)), .ref (x + (q + 1)), .ref (x + (q + 2))])
  else .inl (0, 5, .inl (fun j => nI (T q j))) := by
  show (if q = 0 then _ else if q = 1 then _ else if q = 2 then _ else if q < 8 then _ else if q = 8 then _ else if q = 189 then _ else if q = 190 then _ else _) = _
  rw [if_neg (by omega), if_neg (by omega), if_neg (by omega), if_neg (by omega), if_neg (by omega), if_neg (by omega), if_neg (by omega)]
theorem zx_bw {x v w : Nat} {T : Nat → Nat → Nat} {U : Nat → Nat → Option Nat} (hv : v < 5) (hw : w < 36) : zx_c x T U (9 + 36 * v + w) =
  if w = 0 then .inr (4, [.ref (x + (9 + 36 * v + w + 1)), .ref (x + (9 + 36 * v + w + 32)), .int (nI (T (9 + 36 * v + w) 2)), .int (nI (T (9 + 36 * v + w) 3))])
  else if w = 1 then .inl (2, 3, .inr (fun s => if s < 3 then some (x + qA v s) else none))
  else if w = 32 then .inr (3, [.ref (x + (9 + 36 * v + w + 1)), .ref (x + (9 + 36 * v + w + 2)), .ref (x + (9 + 36 * v + w + 3)), .int (nI (T (9 + 36 * v + w) 3))])
  else if w = 33 ∨ w = 34 then .inl (0, 4, .inl (fun j => nI (T (9 + 36 * v + w) j)))
  else if w = 35 then .inl (5, 8, .inr (U (9 + 36 * v + w)))
  else if (w - 2) % 10 = 0 then .inr (1, [.int (nI v), .int (nI ((w - 2) / 10)), .ref (x + (3 + v)), .ref (x + (9 + 36 * v + w + 1)), .ref (x + (9 + 36 * v + w + 4)), .ref (x + (9 + 36 * v + w + 7)), .int (nI (T (9 + 36 * v + w) 6)), .int (nI (T (9 + 36 * v + w) 7)), .int (nI (T (9 + 36 * v + w) 8)), .int (nI (T (9 + 36 * v + w) 9)), .int (nI (T (9 + 36 * v + w) 10))])
  else if ((w - 2) % 10 - 1) % 3 = 0 then .inr (7, [.int (nI v), .ref (x + 1), .int (nI (T (9 + 36 * v + w) 2)), .int (nI (T (9 + 36 * v + w) 3)), .ref (x + (9 + 36 * v + w + 1)), .ref (x + (9 + 36 * v + w + 2))])
  else .inl (0, 5, .inl (fun j => nI (T (9 + 36 * v + w) j))) := by
  rw [zx_big (by omega), show (9 + 36 * v + w - 9) % 36 = w by omega, show (9 + 36 * v + w - 9) / 36 = v by omega]
theorem zc_N {x v : Nat} {T : Nat → Nat → Nat} {U : Nat → Nat → Option Nat} (hv : v < 5) : zx_c x T U (qN v) = .inr (4, [.ref (x + (qN v + 1)), .ref (x + qL v), .int (nI (T (qN v) 2)), .int (nI (T (qN v) 3))]) := by
  have := zx_bw (x := x) (T := T) (U := U) (w := 0) hv (by decide)
  rw [if_pos rfl] at this
  exact this
theorem zc_As {x v : Nat} {T : Nat → Nat → Nat} {U : Nat → Nat → Option Nat} (hv : v < 5) : zx_c x T U (qN v + 1) = .inl (2, 3, .inr (fun s => if s < 3 then some (x + qA v s) else none)) := by
  have := zx_bw (x := x) (T := T) (U := U) (w := 1) hv (by decide)
  rw [if_neg (by decide), if_pos rfl] at this
  exact this
theorem zc_L {x v : Nat} {T : Nat → Nat → Nat} {U : Nat → Nat → Option Nat} (hv : v < 5) : zx_c x T U (qL v) = .inr (3, [.ref (x + (qL v + 1)), .ref (x + (qL v + 2)), .ref (x + (qL v + 3)), .int (nI (T (qL v) 3))]) := by
  have := zx_bw (x := x) (T := T) (U := U) (w := 32) hv (by decide)
  rw [if_neg (by decide), if_neg (by decide), if_pos rfl] at this
  exact this
theorem zc_Lc {x v c : Nat} {T : Nat → Nat → Nat} {U : Nat → Nat → Option Nat} (hv : v < 5) (hc : c < 2) : zx_c x T U (qL v + 1 + c) = .inl (0, 4, .inl (fun j => nI (T (qL v + 1 + c) j))) := by
  have := zx_bw (x := x) (T := T) (U := U) (w := 33 + c) hv (by omega)
  rw [if_neg (by omega), if_neg (by omega), if_neg (by omega), if_pos (by omega), show 9 + 36 * v + (33 + c) = qL v + 1 + c by unfold qL; omega] at this
  exact this
theorem zc_Lb {x v : Nat} {T : Nat → Nat → Nat} {U : Nat → Nat → Option Nat} (hv : v < 5) : zx_c x T U (qL v + 3) = .inl (5, 8, .inr (U (qL v + 3))) := by
  have := zx_bw (x := x) (T := T) (U := U) (w := 35) hv (by decide)
  rw [if_neg (by decide), if_neg (by decide), if_neg (by decide), if_neg (by decide), if_pos rfl] at this
  exact this
theorem zc_A {x v s : Nat} {T : Nat → Nat → Nat} {U : Nat → Nat → Option Nat} (hv : v < 5) (hs : s < 3) : zx_c x T U (qA v s) = .inr (1, [.int (nI v), .int (nI s), .ref (x + (3 + v)), .ref (x + qS v s 0), .ref (x + qS v s 1), .ref (x + qS v s 2), .int (nI (T (qA v s) 6)), .int (nI (T (qA v s) 7)), .int (nI (T (qA v s) 8)), .int (nI (T (qA v s) 9)), .int (nI (T (qA v s) 10))]) := by
  have := zx_bw (x := x) (T := T) (U := U) (w := 2 + 10 * s) hv (by omega)
  rw [if_neg (by omega), if_neg (by omega), if_neg (by omega), if_neg (by omega), if_neg (by omega), if_pos (by omega), show (2 + 10 * s - 2) / 10 = s by omega, show 9 + 36 * v + (2 + 10 * s) = qA v s by unfold qA; omega] at this
  exact this
theorem zc_S {x v s k : Nat} {T : Nat → Nat → Nat} {U : Nat → Nat → Option Nat} (hv : v < 5) (hs : s < 3) (hk : k < 3) : zx_c x T U (qS v s k) = .inr (7, [.int (nI v), .ref (x + 1), .int (nI (T (qS v s k) 2)), .int (nI (T (qS v s k) 3)), .ref (x + (qS v s k + 1)), .ref (x + (qS v s k + 2))]) := by
  have := zx_bw (x := x) (T := T) (U := U) (w := 3 + 10 * s + 3 * k) hv (by omega)
  have e1 : (3 + 10 * s + 3 * k - 2) % 10 = 1 + 3 * k := by rcases (show s = 0 ∨ s = 1 ∨ s = 2 by omega) with rfl | rfl | rfl <;> omega
  rw [e1] at this
  rw [if_neg (by omega), if_neg (by omega), if_neg (by omega), if_neg (by omega), if_neg (by omega), if_neg (by omega), if_pos (by omega), show 9 + 36 * v + (3 + 10 * s + 3 * k) = qS v s k by unfold qS; omega] at this
  exact this
theorem zc_Sa {x v s k c : Nat} {T : Nat → Nat → Nat} {U : Nat → Nat → Option Nat} (hv : v < 5) (hs : s < 3) (hk : k < 3) (hc : c < 2) : zx_c x T U (qS v s k + 1 + c) = .inl (0, 5, .inl (fun j => nI (T (qS v s k + 1 + c) j))) := by
  have := zx_bw (x := x) (T := T) (U := U) (w := 4 + 10 * s + 3 * k + c) hv (by omega)
  have e1 : (4 + 10 * s + 3 * k + c - 2) % 10 = 2 + 3 * k + c := by rcases (show s = 0 ∨ s = 1 ∨ s = 2 by omega) with rfl | rfl | rfl <;> omega
  rw [e1] at this
  rw [if_neg (by omega), if_neg (by omega), if_neg (by omega), if_neg (by omega), if_neg (by omega), if_neg (by omega), if_neg (by omega), show 9 + 36 * v + (4 + 10 * s + 3 * k + c) = qS v s k + 1 + c by unfold qS; omega] at this
  exact this
theorem qN_lt {v : Nat} (hv : v < 5) : qN v < 191 := by unfold qN; omega
theorem qN1_lt {v : Nat} (hv : v < 5) : qN v + 1 < 191 := by unfold qN; omega
theorem qL_lt {v c : Nat} (hv : v < 5) (hc : c < 4) : qL v + c < 191 := by unfold qL; omega
theorem qA_lt {v s : Nat} (hv : v < 5) (hs : s < 3) : qA v s < 191 := by unfold qA; omega
theorem qS_lt {v s k c : Nat} (hv : v < 5) (hs : s < 3) (hk : k < 3) (hc : c < 3) : qS v s k + c < 191 := by unfold qS; omega
theorem zx_0 (x : Nat) : x + 0 = x := rfl
theorem xo_c (d : za_h) (x : Nat) (T : Nat → Nat → Nat) (U : Nat → Nat → Option Nat) : zg_c (zx d x T U) (x) 0 = some () := zx_gc (q := 0) (by decide) zc_TL
theorem xo_g0 (d : za_h) (x : Nat) (T : Nat → Nat → Nat) (U : Nat → Nat → Option Nat) : zg_i (zx d x T U) (x) 0 0 = some (nI (T (0) 0)) := zx_gi (q := 0) (by decide) zc_TL rfl
theorem xo_p0 (d : za_h) (x : Nat) (T : Nat → Nat → Nat) (U : Nat → Nat → Option Nat) (y : Nat) : zp_f (zx d x T U) (x) 0 0 (.int (nI y)) = some (zx d x (u2 T (0) 0 y) U) := zx_pf (q := 0) (by decide) zc_TL (Nat.le_of_ble_eq_true rfl) (by rw [zc_TL]; simp [u2])
theorem xo_g1 (d : za_h) (x : Nat) (T : Nat → Nat → Nat) (U : Nat → Nat → Option Nat) : zg_r (zx d x T U) (x) 0 1 = some (x + 1) := zx_gr (q := 0) (by decide) zc_TL rfl
theorem xo_g2 (d : za_h) (x : Nat) (T : Nat → Nat → Nat) (U : Nat → Nat → Option Nat) : zg_r (zx d x T U) (x) 0 2 = some (x + 8) := zx_gr (q := 0) (by decide) zc_TL rfl
theorem xo_g3 (d : za_h) (x : Nat) (T : Nat → Nat → Nat) (U : Nat → Nat → Option Nat) : zg_r (zx d x T U) (x) 0 3 = some (x + 189) := zx_gr (q := 0) (by decide) zc_TL rfl
theorem xo_g4 (d : za_h) (x : Nat) (T : Nat → Nat → Nat) (U : Nat → Nat → Option Nat) : zg_r (zx d x T U) (x) 0 4 = some (x + 190) := zx_gr (q := 0) (by decide) zc_TL rfl
theorem xo_g5 (d : za_h) (x : Nat) (T : Nat → Nat → Nat) (U : Nat → Nat → Option Nat) : zg_i (zx d x T U) (x) 0 5 = some (nI (T (0) 5)) := zx_gi (q := 0) (by decide) zc_TL rfl
theorem xo_p5 (d : za_h) (x : Nat) (T : Nat → Nat → Nat) (U : Nat → Nat → Option Nat) (y : Nat) : zp_f (zx d x T U) (x) 0 5 (.int (nI y)) = some (zx d x (u2 T (0) 5 y) U) := zx_pf (q := 0) (by decide) zc_TL (Nat.le_of_ble_eq_true rfl) (by rw [zc_TL]; simp [u2])
theorem xo_g6 (d : za_h) (x : Nat) (T : Nat → Nat → Nat) (U : Nat → Nat → Option Nat) : zg_i (zx d x T U) (x) 0 6 = some (nI (T (0) 6)) := zx_gi (q := 0) (by decide) zc_TL rfl
theorem xo_p6 (d : za_h) (x : Nat) (T : Nat → Nat → Nat) (U : Nat → Nat → Option Nat) (y : Nat) : zp_f (zx d x T U) (x) 0 6 (.int (nI y)) = some (zx d x (u2 T (0) 6 y) U) := zx_pf (q := 0) (by decide) zc_TL (Nat.le_of_ble_eq_true rfl) (by rw [zc_TL]; simp [u2])
theorem xq_c (d : za_h) (x : Nat) (T : Nat → Nat → Nat) (U : Nat → Nat → Option Nat) : zg_c (zx d x T U) (x + 1) 6 = some () := zx_gc (by decide) zc_Q
theorem xq_g0 (d : za_h) (x : Nat) (T : Nat → Nat → Nat) (U : Nat → Nat → Option Nat) : zg_r (zx d x T U) (x + 1) 6 0 = some (x + 2) := zx_gr (by decide) zc_Q rfl
theorem xt_c (d : za_h) (x : Nat) (T : Nat → Nat → Nat) (U : Nat → Nat → Option Nat) {v : Nat} (hv : v < 5) : zg_c (zx d x T U) (x + (3 + v)) 9 = some () := zx_gc (by omega) (zc_T hv)
theorem xt_g0 (d : za_h) (x : Nat) (T : Nat → Nat → Nat) (U : Nat → Nat → Option Nat) {v : Nat} (hv : v < 5) : zg_i (zx d x T U) (x + (3 + v)) 9 0 = some (nI (T (3 + v) 0)) := zx_gi (by omega) (zc_T hv) rfl
theorem xt_p0 (d : za_h) (x : Nat) (T : Nat → Nat → Nat) (U : Nat → Nat → Option Nat) (y : Nat) {v : Nat} (hv : v < 5) : zp_f (zx d x T U) (x + (3 + v)) 9 0 (.int (nI y)) = some (zx d x (u2 T (3 + v) 0 y) U) := zx_pf (by omega) (zc_T hv) (Nat.le_of_ble_eq_true rfl) (by rw [(zc_T hv)]; simp [u2])
theorem xt_g1 (d : za_h) (x : Nat) (T : Nat → Nat → Nat) (U : Nat → Nat → Option Nat) {v : Nat} (hv : v < 5) : zg_i (zx d x T U) (x + (3 + v)) 9 1 = some (nI (T (3 + v) 1)) := zx_gi (by omega) (zc_T hv) rfl
theorem xt_p1 (d : za_h) (x : Nat) (T : Nat → Nat → Nat) (U : Nat → Nat → Option Nat) (y : Nat) {v : Nat} (hv : v < 5) : zp_f (zx d x T U) (x + (3 + v)) 9 1 (.int (nI y)) = some (zx d x (u2 T (3 + v) 1 y) U) := zx_pf (by omega) (zc_T hv) (Nat.le_of_ble_eq_true rfl) (by rw [(zc_T hv)]; simp [u2])
theorem xt_g2 (d : za_h) (x : Nat) (T : Nat → Nat → Nat) (U : Nat → Nat → Option Nat) {v : Nat} (hv : v < 5) : zg_i (zx d x T U) (x + (3 + v)) 9 2 = some (nI (T (3 + v) 2)) := zx_gi (by omega) (zc_T hv) rfl
theorem xt_p2 (d : za_h) (x : Nat) (T : Nat → Nat → Nat) (U : Nat → Nat → Option Nat) (y : Nat) {v : Nat} (hv : v < 5) : zp_f (zx d x T U) (x + (3 + v)) 9 2 (.int (nI y)) = some (zx d x (u2 T (3 + v) 2 y) U) := zx_pf (by omega) (zc_T hv) (Nat.le_of_ble_eq_true rfl) (by rw [(zc_T hv)]; simp [u2])
theorem xt_g3 (d : za_h) (x : Nat) (T : Nat → Nat → Nat) (U : Nat → Nat → Option Nat) {v : Nat} (hv : v < 5) : zg_i (zx d x T U) (x + (3 + v)) 9 3 = some (nI (T (3 + v) 3)) := zx_gi (by omega) (zc_T hv) rfl
theorem xt_p3 (d : za_h) (x : Nat) (T : Nat → Nat → Nat) (U : Nat → Nat → Option Nat) (y : Nat) {v : Nat} (hv : v < 5) : zp_f (zx d x T U) (x + (3 + v)) 9 3 (.int (nI y)) = some (zx d x (u2 T (3 + v) 3 y) U) := zx_pf (by omega) (zc_T hv) (Nat.le_of_ble_eq_true rfl) (by rw [(zc_T hv)]; simp [u2])
theorem xn_c (d : za_h) (x : Nat) (T : Nat → Nat → Nat) (U : Nat → Nat → Option Nat) {v : Nat} (hv : v < 5) : zg_c (zx d x T U) (x + qN v) 4 = some () := zx_gc (qN_lt hv) (zc_N hv)
theorem xn_g0 (d : za_h) (x : Nat) (T : Nat → Nat → Nat) (U : Nat → Nat → Option Nat) {v : Nat} (hv : v < 5) : zg_r (zx d x T U) (x + qN v) 4 0 = some (x + (qN v + 1)) := zx_gr (qN_lt hv) (zc_N hv) rfl
theorem xn_g1 (d : za_h) (x : Nat) (T : Nat → Nat → Nat) (U : Nat → Nat → Option Nat) {v : Nat} (hv : v < 5) : zg_r (zx d x T U) (x + qN v) 4 1 = some (x + qL v) := zx_gr (qN_lt hv) (zc_N hv) rfl
theorem xn_g2 (d : za_h) (x : Nat) (T : Nat → Nat → Nat) (U : Nat → Nat → Option Nat) {v : Nat} (hv : v < 5) : zg_i (zx d x T U) (x + qN v) 4 2 = some (nI (T (qN v) 2)) := zx_gi (qN_lt hv) (zc_N hv) rfl
theorem xn_p2 (d : za_h) (x : Nat) (T : Nat → Nat → Nat) (U : Nat → Nat → Option Nat) (y : Nat) {v : Nat} (hv : v < 5) : zp_f (zx d x T U) (x + qN v) 4 2 (.int (nI y)) = some (zx d x (u2 T (qN v) 2 y) U) := zx_pf (qN_lt hv) (zc_N hv) (Nat.le_of_ble_eq_true rfl) (by rw [(zc_N hv)]; simp [u2])
theorem xn_g3 (d : za_h) (x : Nat) (T : Nat → Nat → Nat) (U : Nat → Nat → Option Nat) {v : Nat} (hv : v < 5) : zg_i (zx d x T U) (x + qN v) 4 3 = some (nI (T (qN v) 3)) := zx_gi (qN_lt hv) (zc_N hv) rfl
theorem xn_p3 (d : za_h) (x : Nat) (T : Nat → Nat → Nat) (U : Nat → Nat → Option Nat) (y : Nat) {v : Nat} (hv : v < 5) : zp_f (zx d x T U) (x + qN v) 4 3 (.int (nI y)) = some (zx d x (u2 T (qN v) 3 y) U) := zx_pf (qN_lt hv) (zc_N hv) (Nat.le_of_ble_eq_true rfl) (by rw [(zc_N hv)]; simp [u2])
theorem xl_c (d : za_h) (x : Nat) (T : Nat → Nat → Nat) (U : Nat → Nat → Option Nat) {v : Nat} (hv : v < 5) : zg_c (zx d x T U) (x + qL v) 3 = some () := zx_gc (qL_lt (c := 0) hv (by decide)) (zc_L hv)
theorem xl_g0 (d : za_h) (x : Nat) (T : Nat → Nat → Nat) (U : Nat → Nat → Option Nat) {v : Nat} (hv : v < 5) : zg_r (zx d x T U) (x + qL v) 3 0 = some (x + (qL v + 1)) := zx_gr (qL_lt (c := 0) hv (by decide)) (zc_L hv) rfl
theorem xl_g1 (d : za_h) (x : Nat) (T : Nat → Nat → Nat) (U : Nat → Nat → Option Nat) {v : Nat} (hv : v < 5) : zg_r (zx d x T U) (x + qL v) 3 1 = some (x + (qL v + 2)) := zx_gr (qL_lt (c := 0) hv (by decide)) (zc_L hv) rfl
theorem xl_g2 (d : za_h) (x : Nat) (T : Nat → Nat → Nat) (U : Nat → Nat → Option Nat) {v : Nat} (hv : v < 5) : zg_r (zx d x T U) (x + qL v) 3 2 = some (x + (qL v + 3)) := zx_gr (qL_lt (c := 0) hv (by decide)) (zc_L hv) rfl
theorem xl_g3 (d : za_h) (x : Nat) (T : Nat → Nat → Nat) (U : Nat → Nat → Option Nat) {v : Nat} (hv : v < 5) : zg_i (zx d x T U) (x + qL v) 3 3 = some (nI (T (qL v) 3)) := zx_gi (qL_lt (c := 0) hv (by decide)) (zc_L hv) rfl
theorem xl_p3 (d : za_h) (x : Nat) (T : Nat → Nat → Nat) (U : Nat → Nat → Option Nat) (y : Nat) {v : Nat} (hv : v < 5) : zp_f (zx d x T U) (x + qL v) 3 3 (.int (nI y)) = some (zx d x (u2 T (qL v) 3 y) U) := zx_pf (qL_lt (c := 0) hv (by decide)) (zc_L hv) (Nat.le_of_ble_eq_true rfl) (by rw [(zc_L hv)]; simp [u2])
theorem xa_c (d : za_h) (x : Nat) (T : Nat → Nat → Nat) (U : Nat → Nat → Option Nat) {v s : Nat} (hv : v < 5) (hs : s < 3) : zg_c (zx d x T U) (x + qA v s) 1 = some () := zx_gc (qA_lt hv hs) (zc_A hv hs)
theorem xa_g0 (d : za_h) (x : Nat) (T : Nat → Nat → Nat) (U : Nat → Nat → Option Nat) {v s : Nat} (hv : v < 5) (hs : s < 3) : zg_i (zx d x T U) (x + qA v s) 1 0 = some (nI v) := zx_gi (qA_lt hv hs) (zc_A hv hs) rfl
theorem xa_g1 (d : za_h) (x : Nat) (T : Nat → Nat → Nat) (U : Nat → Nat → Option Nat) {v s : Nat} (hv : v < 5) (hs : s < 3) : zg_i (zx d x T U) (x + qA v s) 1 1 = some (nI s) := zx_gi (qA_lt hv hs) (zc_A hv hs) rfl
theorem xa_g2 (d : za_h) (x : Nat) (T : Nat → Nat → Nat) (U : Nat → Nat → Option Nat) {v s : Nat} (hv : v < 5) (hs : s < 3) : zg_r (zx d x T U) (x + qA v s) 1 2 = some (x + (3 + v)) := zx_gr (qA_lt hv hs) (zc_A hv hs) rfl
theorem xa_g3 (d : za_h) (x : Nat) (T : Nat → Nat → Nat) (U : Nat → Nat → Option Nat) {v s : Nat} (hv : v < 5) (hs : s < 3) : zg_r (zx d x T U) (x + qA v s) 1 3 = some (x + qS v s 0) := zx_gr (qA_lt hv hs) (zc_A hv hs) rfl
theorem xa_g4 (d : za_h) (x : Nat) (T : Nat → Nat → Nat) (U : Nat → Nat → Option Nat) {v s : Nat} (hv : v < 5) (hs : s < 3) : zg_r (zx d x T U) (x + qA v s) 1 4 = some (x + qS v s 1) := zx_gr (qA_lt hv hs) (zc_A hv hs) rfl
theorem xa_g5 (d : za_h) (x : Nat) (T : Nat → Nat → Nat) (U : Nat → Nat → Option Nat) {v s : Nat} (hv : v < 5) (hs : s < 3) : zg_r (zx d x T U) (x + qA v s) 1 5 = some (x + qS v s 2) := zx_gr (qA_lt hv hs) (zc_A hv hs) rfl
theorem xa_g6 (d : za_h) (x : Nat) (T : Nat → Nat → Nat) (U : Nat → Nat → Option Nat) {v s : Nat} (hv : v < 5) (hs : s < 3) : zg_i (zx d x T U) (x + qA v s) 1 6 = some (nI (T (qA v s) 6)) := zx_gi (qA_lt hv hs) (zc_A hv hs) rfl
theorem xa_p6 (d : za_h) (x : Nat) (T : Nat → Nat → Nat) (U : Nat → Nat → Option Nat) (y : Nat) {v s : Nat} (hv : v < 5) (hs : s < 3) : zp_f (zx d x T U) (x + qA v s) 1 6 (.int (nI y)) = some (zx d x (u2 T (qA v s) 6 y) U) := zx_pf (qA_lt hv hs) (zc_A hv hs) (Nat.le_of_ble_eq_true rfl) (by rw [(zc_A hv hs)]; simp [u2])
theorem xa_g7 (d : za_h) (x : Nat) (T : Nat → Nat → Nat) (U : Nat → Nat → Option Nat) {v s : Nat} (hv : v < 5) (hs : s < 3) : zg_i (zx d x T U) (x + qA v s) 1 7 = some (nI (T (qA v s) 7)) := zx_gi (qA_lt hv hs) (zc_A hv hs) rfl
theorem xa_p7 (d : za_h) (x : Nat) (T : Nat → Nat → Nat) (U : Nat → Nat → Option Nat) (y : Nat) {v s : Nat} (hv : v < 5) (hs : s < 3) : zp_f (zx d x T U) (x + qA v s) 1 7 (.int (nI y)) = some (zx d x (u2 T (qA v s) 7 y) U) := zx_pf (qA_lt hv hs) (zc_A hv hs) (Nat.le_of_ble_eq_true rfl) (by rw [(zc_A hv hs)]; simp [u2])
theorem xa_g8 (d : za_h) (x : Nat) (T : Nat → Nat → Nat) (U : Nat → Nat → Option Nat) {v s : Nat} (hv : v < 5) (hs : s < 3) : zg_i (zx d x T U) (x + qA v s) 1 8 = some (nI (T (qA v s) 8)) := zx_gi (qA_lt hv hs) (zc_A hv hs) rfl
theorem xa_p8 (d : za_h) (x : Nat) (T : Nat → Nat → Nat) (U : Nat → Nat → Option Nat) (y : Nat) {v s : Nat} (hv : v < 5) (hs : s < 3) : zp_f (zx d x T U) (x + qA v s) 1 8 (.int (nI y)) = some (zx d x (u2 T (qA v s) 8 y) U) := zx_pf (qA_lt hv hs) (zc_A hv hs) (Nat.le_of_ble_eq_true rfl) (by rw [(zc_A hv hs)]; simp [u2])
theorem xa_g9 (d : za_h) (x : Nat) (T : Nat → Nat → Nat) (U : Nat → Nat → Option Nat) {v s : Nat} (hv : v < 5) (hs : s < 3) : zg_i (zx d x T U) (x + qA v s) 1 9 = some (nI (T (qA v s) 9)) := zx_gi (qA_lt hv hs) (zc_A hv hs) rfl
theorem xa_p9 (d : za_h) (x : Nat) (T : Nat → Nat → Nat) (U : Nat → Nat → Option Nat) (y : Nat) {v s : Nat} (hv : v < 5) (hs : s < 3) : zp_f (zx d x T U) (x + qA v s) 1 9 (.int (nI y)) = some (zx d x (u2 T (qA v s) 9 y) U) := zx_pf (qA_lt hv hs) (zc_A hv hs) (Nat.le_of_ble_eq_true rfl) (by rw [(zc_A hv hs)]; simp [u2])
theorem xa_g10 (d : za_h) (x : Nat) (T : Nat → Nat → Nat) (U : Nat → Nat → Option Nat) {v s : Nat} (hv : v < 5) (hs : s < 3) : zg_i (zx d x T U) (x + qA v s) 1 10 = some (nI (T (qA v s) 10)) := zx_gi (qA_lt hv hs) (zc_A hv hs) rfl
theorem xa_p10 (d : za_h) (x : Nat) (T : Nat → Nat → Nat) (U : Nat → Nat → Option Nat) (y : Nat) {v s : Nat} (hv : v < 5) (hs : s < 3) : zp_f (zx d x T U) (x + qA v s) 1 10 (.int (nI y)) = some (zx d x (u2 T (qA v s) 10 y) U) := zx_pf (qA_lt hv hs) (zc_A hv hs) (Nat.le_of_ble_eq_true rfl) (by rw [(zc_A hv hs)]; simp [u2])
theorem xs_c (d : za_h) (x : Nat) (T : Nat → Nat → Nat) (U : Nat → Nat → Option Nat) {v s k : Nat} (hv : v < 5) (hs : s < 3) (hk : k < 3) : zg_c (zx d x T U) (x + qS v s k) 7 = some () := zx_gc (qS_lt (c := 0) hv hs hk (by decide)) (zc_S hv hs hk)
theorem xs_g0 (d : za_h) (x : Nat) (T : Nat → Nat → Nat) (U : Nat → Nat → Option Nat) {v s k : Nat} (hv : v < 5) (hs : s < 3) (hk : k < 3) : zg_i (zx d x T U) (x + qS v s k) 7 0 = some (nI v) := zx_gi (qS_lt (c := 0) hv hs hk (by decide)) (zc_S hv hs hk) rfl
theorem xs_g1 (d : za_h) (x : Nat) (T : Nat → Nat → Nat) (U : Nat → Nat → Option Nat) {v s k : Nat} (hv : v < 5) (hs : s < 3) (hk : k < 3) : zg_r (zx d x T U) (x + qS v s k) 7 1 = some (x + 1) := zx_gr (qS_lt (c := 0) hv hs hk (by decide)) (zc_S hv hs hk) rfl
theorem xs_g2 (d : za_h) (x : Nat) (T : Nat → Nat → Nat) (U : Nat → Nat → Option Nat) {v s k : Nat} (hv : v < 5) (hs : s < 3) (hk : k < 3) : zg_i (zx d x T U) (x + qS v s k) 7 2 = some (nI (T (qS v s k) 2)) := zx_gi (qS_lt (c := 0) hv hs hk (by decide)) (zc_S hv hs hk) rfl
theorem xs_p2 (d : za_h) (x : Nat) (T : Nat → Nat → Nat) (U : Nat → Nat → Option Nat) (y : Nat) {v s k : Nat} (hv : v < 5) (hs : s < 3) (hk : k < 3) : zp_f (zx d x T U) (x + qS v s k) 7 2 (.int (nI y)) = some (zx d x (u2 T (qS v s k) 2 y) U) := zx_pf (qS_lt (c := 0) hv hs hk (by decide)) (zc_S hv hs hk) (Nat.le_of_ble_eq_true rfl) (by rw [(zc_S hv hs hk)]; simp [u2])
theorem xs_g3 (d : za_h) (x : Nat) (T : Nat → Nat → Nat) (U : Nat → Nat → Option Nat) {v s k : Nat} (hv : v < 5) (hs : s < 3) (hk : k < 3) : zg_i (zx d x T U) (x + qS v s k) 7 3 = some (nI (T (qS v s k) 3)) := zx_gi (qS_lt (c := 0) hv hs hk (by decide)) (zc_S hv hs hk) rfl
theorem xs_p3 (d : za_h) (x : Nat) (T : Nat → Nat → Nat) (U : Nat → Nat → Option Nat) (y : Nat) {v s k : Nat} (hv : v < 5) (hs : s < 3) (hk : k < 3) : zp_f (zx d x T U) (x + qS v s k) 7 3 (.int (nI y)) = some (zx d x (u2 T (qS v s k) 3 y) U) := zx_pf (qS_lt (c := 0) hv hs hk (by decide)) (zc_S hv hs hk) (Nat.le_of_ble_eq_true rfl) (by rw [(zc_S hv hs hk)]; simp [u2])
theorem xs_g4 (d : za_h) (x : Nat) (T : Nat → Nat → Nat) (U : Nat → Nat → Option Nat) {v s k : Nat} (hv : v < 5) (hs : s < 3) (hk : k < 3) : zg_r (zx d x T U) (x + qS v s k) 7 4 = some (x + (qS v s k + 1)) := zx_gr (qS_lt (c := 0) hv hs hk (by decide)) (zc_S hv hs hk) rfl
theorem xs_g5 (d : za_h) (x : Nat) (T : Nat → Nat → Nat) (U : Nat → Nat → Option Nat) {v s k : Nat} (hv : v < 5) (hs : s < 3) (hk : k < 3) : zg_r (zx d x T U) (x + qS v s k) 7 5 = some (x + (qS v s k + 2)) := zx_gr (qS_lt (c := 0) hv hs hk (by decide)) (zc_S hv hs hk) rfl
theorem xb_l (d : za_h) (x : Nat) (T : Nat → Nat → Nat) (U : Nat → Nat → Option Nat) {i : Nat} {v s k : Nat} (hv : v < 5) (hs : s < 3) (hk : k < 3) (hi : i < 5) : za_ld (zx d x T U) (x + (qS v s k + 1)) 0 (nI i) = some (nI (T (qS v s k + 1) i)) := zx_ld (qS_lt (c := 1) hv hs hk (by decide)) (zc_Sa (c := 0) hv hs hk (by decide)) hi (by decide)
theorem xb_s (d : za_h) (x : Nat) (T : Nat → Nat → Nat) (U : Nat → Nat → Option Nat) {i y : Nat} {v s k : Nat} (hv : v < 5) (hs : s < 3) (hk : k < 3) (hi : i < 5) : za_st (zx d x T U) (x + (qS v s k + 1)) 0 (nI i) (nI y) = some (zx d x (u2 T (qS v s k + 1) i y) U) := zx_st (qS_lt (c := 1) hv hs hk (by decide)) (fun T => (zc_Sa (c := 0) hv hs hk (by decide))) hi (by decide)
theorem xc_l (d : za_h) (x : Nat) (T : Nat → Nat → Nat) (U : Nat → Nat → Option Nat) {i : Nat} {v s k : Nat} (hv : v < 5) (hs : s < 3) (hk : k < 3) (hi : i < 5) : za_ld (zx d x T U) (x + (qS v s k + 2)) 0 (nI i) = some (nI (T (qS v s k + 2) i)) := zx_ld (qS_lt (c := 2) hv hs hk (by decide)) (zc_Sa (c := 1) hv hs hk (by decide)) hi (by decide)
theorem xc_s (d : za_h) (x : Nat) (T : Nat → Nat → Nat) (U : Nat → Nat → Option Nat) {i y : Nat} {v s k : Nat} (hv : v < 5) (hs : s < 3) (hk : k < 3) (hi : i < 5) : za_st (zx d x T U) (x + (qS v s k + 2)) 0 (nI i) (nI y) = some (zx d x (u2 T (qS v s k + 2) i y) U) := zx_st (qS_lt (c := 2) hv hs hk (by decide)) (fun T => (zc_Sa (c := 1) hv hs hk (by decide))) hi (by decide)
theorem xlc_l (d : za_h) (x : Nat) (T : Nat → Nat → Nat) (U : Nat → Nat → Option Nat) {i : Nat} {v : Nat} (hv : v < 5) (hi : i < 4) : za_ld (zx d x T U) (x + (qL v + 1)) 0 (nI i) = some (nI (T (qL v + 1) i)) := zx_ld (qL_lt (c := 1) hv (by decide)) (zc_Lc (c := 0) hv (by decide)) hi (by decide)
theorem xlc_s (d : za_h) (x : Nat) (T : Nat → Nat → Nat) (U : Nat → Nat → Option Nat) {i y : Nat} {v : Nat} (hv : v < 5) (hi : i < 4) : za_st (zx d x T U) (x + (qL v + 1)) 0 (nI i) (nI y) = some (zx d x (u2 T (qL v + 1) i y) U) := zx_st (qL_lt (c := 1) hv (by decide)) (fun T => (zc_Lc (c := 0) hv (by decide))) hi (by decide)
theorem xls_l (d : za_h) (x : Nat) (T : Nat → Nat → Nat) (U : Nat → Nat → Option Nat) {i : Nat} {v : Nat} (hv : v < 5) (hi : i < 4) : za_ld (zx d x T U) (x + (qL v + 2)) 0 (nI i) = some (nI (T (qL v + 2) i)) := zx_ld (qL_lt (c := 2) hv (by decide)) (zc_Lc (c := 1) hv (by decide)) hi (by decide)
theorem xls_s (d : za_h) (x : Nat) (T : Nat → Nat → Nat) (U : Nat → Nat → Option Nat) {i y : Nat} {v : Nat} (hv : v < 5) (hi : i < 4) : za_st (zx d x T U) (x + (qL v + 2)) 0 (nI i) (nI y) = some (zx d x (u2 T (qL v + 2) i y) U) := zx_st (qL_lt (c := 2) hv (by decide)) (fun T => (zc_Lc (c := 1) hv (by decide))) hi (by decide)
theorem xts_l (d : za_h) (x : Nat) (T : Nat → Nat → Nat) (U : Nat → Nat → Option Nat) {v : Nat} (hv : v < 5) : za_ln (zx d x T U) (x + 2) 7 (nI v) = some (x + (3 + v)) := zx_ln (by decide) zc_Ts hv (by decide) (by rw [if_pos hv])
theorem xns_l (d : za_h) (x : Nat) (T : Nat → Nat → Nat) (U : Nat → Nat → Option Nat) {v : Nat} (hv : v < 5) : za_ln (zx d x T U) (x + 8) 4 (nI v) = some (x + qN v) := zx_ln (by decide) zc_Ns hv (by decide) (by rw [if_pos hv])
theorem xas_l (d : za_h) (x : Nat) (T : Nat → Nat → Nat) (U : Nat → Nat → Option Nat) {v s : Nat} (hv : v < 5) (hs : s < 3) : za_ln (zx d x T U) (x + (qN v + 1)) 2 (nI s) = some (x + qA v s) := zx_ln (qN1_lt hv) (zc_As hv) hs (by decide) (by rw [if_pos hs])
theorem xtx_l (d : za_h) (x : Nat) (T : Nat → Nat → Nat) (U : Nat → Nat → Option Nat) {i : Nat} (hi : i < 9) : za_lq (zx d x T U) (x + 189) 6 (nI i) = some (U 189 i) := zx_lq (by decide) zc_tx hi (by decide)
theorem xml_l (d : za_h) (x : Nat) (T : Nat → Nat → Nat) (U : Nat → Nat → Option Nat) {i : Nat} (hi : i < 120) : za_lq (zx d x T U) (x + 190) 3 (nI i) = some (U 190 i) := zx_lq (by decide) zc_ml hi (by decide)
theorem xbk_l (d : za_h) (x : Nat) (T : Nat → Nat → Nat) (U : Nat → Nat → Option Nat) {v i : Nat} (hv : v < 5) (hi : i < 8) : za_lq (zx d x T U) (x + (qL v + 3)) 5 (nI i) = some (U (qL v + 3) i) := zx_lq (qL_lt (c := 3) hv (by decide)) (zc_Lb hv) hi (by decide)
