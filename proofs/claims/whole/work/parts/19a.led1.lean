/-! The class: offers, a node's ledger. -/
def yof (p q r w : Nat) : za_c := .inr (5, [.int (nI p), .int (nI q), .int (nI r), .int (nI w)])
/-- a place in an array of references, set -/
def uu (U : Nat → Nat → Option Nat) (q i : Nat) (o : Option Nat) : Nat → Nat → Option Nat := fun r j => if r = q ∧ j = i then o else U r j
theorem zx_sq {d : za_h} {x q t n ci i : Nat} {T : Nat → Nat → Nat} {U : Nat → Nat → Option Nat} {o : Option Nat} (hq : q < 191) (hc : ∀ U, zx_c x T U q = .inl (t, n, .inr (U q))) (hi : i < n) (hn : n < 2 ^ 31) (ho : ∀ a, o = some a → zg_c (zx d x T U) a ci = some ()) : za_sq (zx d x T U) (x + q) t ci (nI i) o = some (zx d x T (uu U q i o)) := by
  unfold za_sq
  rw [zx_at hq, hc]
  show (if t = t ∧ ¬ (nI i < 0 ∨ n ≤ (nI i).toNatClampNeg) ∧ (o.all fun v => (zg_c (zx d x T U) v ci).isSome) = true then _ else _) = _
  have h3 : (o.all fun v => (zg_c (zx d x T U) v ci).isSome) = true := by
    cases o with
    | none => rfl
    | some a => show (zg_c (zx d x T U) a ci).isSome = true; rw [ho a rfl]; rfl
  rw [if_pos ⟨rfl, zn_in hi hn, h3⟩, nI_clamp (by omega)]
  have e : (.inl (t, n, .inr (va_up (U q) i o)) : za_c) = zx_c x T (uu U q i o) q := by
    rw [hc]
    have : va_up (U q) i o = uu U q i o q := by
      funext j
      unfold va_up uu
      by_cases hj : j = i
      · rw [if_pos hj, if_pos ⟨rfl, hj⟩]
      · rw [if_neg hj, if_neg (fun h => hj h.2)]
    rw [this]
  rw [e, zx_w hq (fun _ _ => rfl) (fun r hr => by funext j; unfold uu; rw [if_neg (fun h => hr h.1)])]
section YO
variable {d : za_h} {x : Nat} {T : Nat → Nat → Nat} {U : Nat → Nat → Option Nat} {a p q r w : Nat}
theorem yof_f (ha : x + 191 ≤ a) (h : d.1 a = some (yof p q r w)) (k : Nat) : zg_f (zx d x T U) a 5 k = ([.int (nI p), .int (nI q), .int (nI r), .int (nI w)] : List Value)[k]? := by
  unfold zg_f; rw [zx_out (Or.inr ha), h]; rfl
theorem yof_0 (ha : x + 191 ≤ a) (h : d.1 a = some (yof p q r w)) : zg_i (zx d x T U) a 5 0 = some (nI p) := by unfold zg_i; rw [yof_f ha h]; rfl
theorem yof_1 (ha : x + 191 ≤ a) (h : d.1 a = some (yof p q r w)) : zg_i (zx d x T U) a 5 1 = some (nI q) := by unfold zg_i; rw [yof_f ha h]; rfl
theorem yof_2 (ha : x + 191 ≤ a) (h : d.1 a = some (yof p q r w)) : zg_i (zx d x T U) a 5 2 = some (nI r) := by unfold zg_i; rw [yof_f ha h]; rfl
theorem yof_3 (ha : x + 191 ≤ a) (h : d.1 a = some (yof p q r w)) : zg_i (zx d x T U) a 5 3 = some (nI w) := by unfold zg_i; rw [yof_f ha h]; rfl
theorem yof_c (ha : x + 191 ≤ a) (h : d.1 a = some (yof p q r w)) : zg_c (zx d x T U) a 5 = some () := by
  unfold zg_c; rw [zx_out (Or.inr ha), h]; rfl
theorem zx_wd {c : za_c} (ha : x + 191 ≤ a) : za_w (zx d x T U) a c = zx (za_w d a c) x T U := by
  refine Prod.ext ?_ rfl
  funext b
  show (if b = a then some c else (zx d x T U).1 b) = if x ≤ b ∧ b < x + 191 then some (zx_c x T U (b - x)) else (if b = a then some c else d.1 b)
  by_cases hb : b = a
  · rw [if_pos hb, if_neg (by omega), if_pos hb]
  · rw [if_neg hb, if_neg hb]; rfl
theorem yof_p (ha : x + 191 ≤ a) (h : d.1 a = some (yof p q r w)) (y : Nat) : zp_f (zx d x T U) a 5 3 (.int (nI y)) = some (zx (za_w d a (yof p q r y)) x T U) := by
  unfold zp_f; rw [zx_out (Or.inr ha), h]
  show (if 5 = 5 ∧ 3 < 4 then some (za_w (zx d x T U) a (yof p q r y)) else none) = _
  rw [if_pos ⟨rfl, by decide⟩, zx_wd ha]
theorem ysells (ha : x + 191 ≤ a) (h : d.1 a = some (yof p q r w)) (hq : q < 2) : zf_Offer_sells a (zx d x T U) = some (nI q, zx d x T U) := by
  unfold zf_Offer_sells zf_Offer_sells_13
  simp only [yof_1 ha h, zbs, nI_eq (show q < 2 ^ 31 by omega) (show 1 < 2 ^ 31 by decide), z010, z011, if_true]
  by_cases h1 : q = 1
  · rw [if_pos h1, h1]
  · rw [if_neg h1, show q = 0 by omega]
theorem yagrees (ha : x + 191 ≤ a) (h : d.1 a = some (yof p q r w)) (hq : q < 2) (hr : r < 2 ^ 31) {y : Nat} (hy : y < 2 ^ 31) : zf_Offer_agreesTo a (nI y) (zx d x T U) = some (nI (if q = 0 then decide (y ≤ r) else decide (r ≤ y)).toNat, zx d x T U) := by
  unfold zf_Offer_agreesTo zf_Offer_agreesTo_36
  simp only [yof_c ha h, zbs, ysells ha h hq, yof_2 ha h, zn_eq0 (show q < 2 ^ 31 by omega), nI_ltI hr hy, nI_ltI hy hr, z010, z011, if_true]
  by_cases h0 : q = 0
  · rw [if_pos h0, if_pos h0]
    by_cases h1 : r < y
    · rw [if_pos h1, decide_eq_false (by omega)]; rfl
    · rw [if_neg h1, decide_eq_true (by omega)]; rfl
  · rw [if_neg h0, if_neg h0]
    by_cases h1 : y < r
    · rw [if_pos h1, decide_eq_false (by omega)]; rfl
    · rw [if_neg h1, decide_eq_true (by omega)]; rfl
theorem yprefers (ha : x + 191 ≤ a) (h : d.1 a = some (yof p q r w)) (hq : q < 2) {y z : Nat} (hy : y < 2 ^ 31) (hz : z < 2 ^ 31) : zf_Offer_prefers a (nI y) (nI z) (zx d x T U) = some (nI (if q = 0 then decide (y < z) else decide (z < y)).toNat, zx d x T U) := by
  unfold zf_Offer_prefers zf_Offer_prefers_30
  simp only [yof_c ha h, zbs, ysells ha h hq, zn_eq0 (show q < 2 ^ 31 by omega), nI_leI hz hy, nI_leI hy hz, z010, z011, if_true]
  by_cases h0 : q = 0
  · rw [if_pos h0, if_pos h0]
    by_cases h1 : z ≤ y
    · rw [if_pos h1, decide_eq_false (by omega)]; rfl
    · rw [if_neg h1, decide_eq_true (by omega)]; rfl
  · rw [if_neg h0, if_neg h0]
    by_cases h1 : y ≤ z
    · rw [if_pos h1, decide_eq_false (by omega)]; rfl
    · rw [if_neg h1, decide_eq_true (by omega)]; rfl
end YO
/-- a node's balances and the number of its resting offers -/
def zk (T : Nat → Nat → Nat) (v : Nat) (L : zq_Q) : Nat → Nat → Nat := fun q j =>
  if q = qL v ∧ j = 3 then L 5 0 else if q = qL v + 1 ∧ j < 4 then L 0 (2 * j) else if q = qL v + 2 ∧ j < 4 then L 0 (2 * j + 1) else T q j
/-- its book's row -/
def uk (U : Nat → Nat → Option Nat) (v : Nat) (u : Nat → Option Nat) : Nat → Nat → Option Nat := fun q => if q = qL v + 3 then u else U q
def u1 (u : Nat → Option Nat) (i : Nat) (o : Option Nat) : Nat → Option Nat := fun j => if j = i then o else u j
section YK
variable {T : Nat → Nat → Nat} {v : Nat} {L : zq_Q} {U : Nat → Nat → Option Nat} {u : Nat → Option Nat}
theorem zkl_3 : zk T v L (qL v) 3 = L 5 0 := by unfold zk; rw [if_pos ⟨rfl, rfl⟩]
theorem zkl_c {j : Nat} (hj : j < 4) : zk T v L (qL v + 1) j = L 0 (2 * j) := by unfold zk; rw [if_neg (by omega), if_pos ⟨rfl, hj⟩]
theorem zkl_s {j : Nat} (hj : j < 4) : zk T v L (qL v + 2) j = L 0 (2 * j + 1) := by unfold zk; rw [if_neg (by omega), if_neg (by omega), if_pos ⟨rfl, hj⟩]
theorem zkl_o {q j : Nat} (h : q < qL v ∨ qL v + 2 < q) : zk T v L q j = T q j := by unfold zk; rw [if_neg (by omega), if_neg (by omega), if_neg (by omega)]
theorem zkl_u3 {y : Nat} : u2 (zk T v L) (qL v) 3 y = zk T v (u2 L 5 0 y) := by
  funext q j
  show (if q = qL v ∧ j = 3 then y else zk T v L q j) = zk T v (u2 L 5 0 y) q j
  unfold zk
  rw [u2_s, u2_k (show 0 ≠ 5 by decide), u2_k (show 0 ≠ 5 by decide)]
  by_cases h : q = qL v ∧ j = 3
  · rw [if_pos h, if_pos h]
  · rw [if_neg h, if_neg h, if_neg h]
theorem zkl_uc {i y : Nat} (hi : i < 4) : u2 (zk T v L) (qL v + 1) i y = zk T v (u2 L 0 (2 * i) y) := by
  funext q j
  show (if q = qL v + 1 ∧ j = i then y else zk T v L q j) = zk T v (u2 L 0 (2 * i) y) q j
  unfold zk
  rw [u2_k (show 5 ≠ 0 by decide), u2_i (show 2 * j + 1 ≠ 2 * i by omega)]
  by_cases h : q = qL v + 1 ∧ j = i
  · obtain ⟨rfl, rfl⟩ := h
    rw [if_pos ⟨rfl, rfl⟩, if_neg (by omega), if_pos ⟨rfl, hi⟩, u2_s]
  · rw [if_neg h]
    by_cases h2 : q = qL v + 1 ∧ j < 4
    · rw [if_neg (by omega), if_pos h2, if_neg (by omega), if_pos h2, u2_i (by omega)]
    · rw [if_neg h2, if_neg h2]
theorem zkl_us {i y : Nat} (hi : i < 4) : u2 (zk T v L) (qL v + 2) i y = zk T v (u2 L 0 (2 * i + 1) y) := by
  funext q j
  show (if q = qL v + 2 ∧ j = i then y else zk T v L q j) = zk T v (u2 L 0 (2 * i + 1) y) q j
  unfold zk
  rw [u2_k (show 5 ≠ 0 by decide), u2_i (show 2 * j ≠ 2 * i + 1 by omega)]
  by_cases h : q = qL v + 2 ∧ j = i
  · obtain ⟨rfl, rfl⟩ := h
    rw [if_pos ⟨rfl, rfl⟩, if_neg (by omega), if_neg (by omega), if_pos ⟨rfl, hi⟩, u2_s]
  · rw [if_neg h]
    by_cases h2 : q = qL v + 2 ∧ j < 4
    · rw [if_neg (by omega), if_neg (by omega), if_pos h2, if_neg (by omega), if_neg (by omega), if_pos h2, u2_i (by omega)]
    · rw [if_neg h2, if_neg h2]
theorem uk_s {i : Nat} : uk U v u (qL v + 3) i = u i := by unfold uk; rw [if_pos rfl]
theorem uk_u {i : Nat} {o : Option Nat} : uu (uk U v u) (qL v + 3) i o = uk U v (u1 u i o) := by
  funext q j
  unfold uu uk u1
  by_cases h : q = qL v + 3
  · rw [if_pos h, if_pos h]
    by_cases hj : j = i
    · rw [if_pos ⟨h, hj⟩, if_pos hj]
    · rw [if_neg (fun e => hj e.2), if_neg hj]
  · rw [if_neg h, if_neg h, if_neg (fun e => h e.1)]
end YK
