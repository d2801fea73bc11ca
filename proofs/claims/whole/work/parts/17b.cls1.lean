/-! The class: its helpers, trust, and the greatest quorum. -/
theorem yh {a b : Nat} (ha : a < 2 ^ 32) (hb : b < 32) (σ : za_h) : zf_TL_has (nI a) (nI b) σ = some (nI (a.testBit b).toNat, σ) := by
  unfold zf_TL_has zf_TL_has_13
  rw [zn_ubit ha hb]
  simp only [z010, z011, if_true]
  cases a.testBit b
  · rw [if_pos (by decide)]; rfl
  · rw [if_neg (by decide)]; rfl
theorem yw (x lo hi : Int32) (σ : za_h) : zf_TL_isWithin x lo hi σ = some (nI (decide (lo ≤ x ∧ x ≤ hi)).toNat, σ) := by
  unfold zf_TL_isWithin
  by_cases h1 : x < lo
  · have h : ¬ (lo ≤ x ∧ x ≤ hi) := fun h => absurd h1 (Int32.not_lt.mpr h.1)
    rw [if_pos h1, decide_eq_false h]
    rfl
  · rw [if_neg h1]
    by_cases h2 : hi < x
    · have h : ¬ (lo ≤ x ∧ x ≤ hi) := fun h => absurd h2 (Int32.not_lt.mpr h.2)
      rw [if_pos h2, decide_eq_false h]
      rfl
    · rw [if_neg h2, decide_eq_true ⟨Int32.not_lt.mp h1, Int32.not_lt.mp h2⟩]
      rfl
theorem ysl (x : Int32) (σ : za_h) : zf_TL_isSlot x σ = some (nI (zo_kin 3 x).toNat, σ) := by
  unfold zf_TL_isSlot
  simp only [yw, Option.bind_some, zo_in (show 2 < 2 ^ 31 by decide), z01, if_true]
theorem yac (x : Int32) (σ : za_h) : zf_TL_isAccount x σ = some (nI (zo_kin 4 x).toNat, σ) := by
  unfold zf_TL_isAccount
  simp only [yw, Option.bind_some, zo_in (show 3 < 2 ^ 31 by decide), z01, if_true]
theorem yvo {b : Nat} (hb : b < 2 ^ 30) (σ : za_h) : zf_TL_valueOf (nI b) σ = some (nI (zq_wo b), σ) := by
  unfold zf_TL_valueOf zq_wo
  rw [pk_rem (by omega) (by decide) (by decide), nI_add]
theorem ybo {c x : Nat} (hc : 1 ≤ c) (hx : 1 ≤ x) (σ : za_h) : zf_TL_ballotOf (nI c) (nI x) σ = some (nI (7 * (c - 1) + x - 1), σ) := by
  unfold zf_TL_ballotOf
  rw [pk_sub hc, pk_mul, nI_add, pk_sub (by omega)]
/-- the ballots that a ballot aborts, and those that abort it -/
def zq_dn (b : Nat) : Nat := (268435455 &&& ((2113665 * 2 ^ (b % 7)) ^^^ 4294967295)) &&& (2 ^ b - 1)
def zq_up (b : Nat) : Nat := (268435455 &&& ((2113665 * 2 ^ (b % 7)) ^^^ 4294967295)) &&& ((2 ^ b - 1) ^^^ 4294967295)
theorem zq_dn_tb : ∀ b, b < 28 → ∀ c, c < 28 → (zq_dn b).testBit c = zq_ab b c := by decide +kernel
theorem zq_up_tb : ∀ b, b < 28 → ∀ c, c < 28 → (zq_up b).testBit c = zq_ab c b := by decide +kernel
theorem zq_dn_lt : ∀ b, b < 28 → zq_dn b < 2 ^ 28 := by decide +kernel
theorem zq_up_lt : ∀ b, b < 28 → zq_up b < 2 ^ 28 := by decide +kernel
theorem ydn {b : Nat} (hb : b < 28) (σ : za_h) : zf_TL_abortedBy (nI b) σ = some (nI (zq_dn b), σ) := by
  unfold zf_TL_abortedBy zf_TL_otherValued
  simp only [Option.bind_some, pk_rem (show b < 2 ^ 31 by omega) (show 0 < 7 by decide) (show 7 < 2 ^ 31 by decide), zn_shl (show b % 7 < 32 by omega), zn_m1, zn_xor, zn_and, zn_shl (show b < 32 by omega), Nat.one_mul]
  rw [pk_sub Nat.one_le_two_pow, zn_and]
  rfl
theorem yup {b : Nat} (hb : b < 28) (σ : za_h) : zf_TL_abortersOf (nI b) σ = some (nI (zq_up b), σ) := by
  unfold zf_TL_abortersOf zf_TL_otherValued
  simp only [Option.bind_some, pk_rem (show b < 2 ^ 31 by omega) (show 0 < 7 by decide) (show 7 < 2 ^ 31 by decide), zn_shl (show b % 7 < 32 by omega), zn_m1, zn_xor, zn_and, zn_shl (show b < 32 by omega), Nat.one_mul]
  rw [pk_sub Nat.one_le_two_pow, zn_xor, zn_and]
  rfl
theorem zq_and0 {a b : Nat} (ha : a < 2 ^ 28) : (a &&& b = 0) ↔ ((List.range 28).any fun c => b.testBit c && a.testBit c) = false := by
  constructor
  · intro h
    refine List.any_eq_false.mpr (fun c _ => ?_)
    have := congrArg (fun n => n.testBit c) h
    simp only [Nat.testBit_and, Nat.zero_testBit] at this
    rw [Bool.and_comm, this]
    decide
  · intro h
    apply Nat.eq_of_testBit_eq
    intro i
    rw [Nat.testBit_and, Nat.zero_testBit]
    by_cases hi : i < 28
    · have := List.any_eq_false.mp h i (List.mem_range.mpr hi)
      rw [Bool.and_comm]
      exact Bool.eq_false_iff.mpr this
    · rw [Nat.testBit_lt_two_pow (Nat.lt_of_lt_of_le ha (Nat.pow_le_pow_right (by decide) (by omega)))]
      rfl
theorem zq_cl_dn {Q : zq_Q} {k h b : Nat} (hb : b < 28) (hq : Q 0 (3 * k + h) < 2 ^ 28) : (Q 0 (3 * k + h) &&& zq_dn b = 0) ↔ zq_cl Q k h b false = false := by
  rw [zq_and0 hq]
  unfold zq_cl zq_has
  have : ∀ c ∈ List.range 28, ((zq_dn b).testBit c && (Q 0 (3 * k + h)).testBit c) = ((if false = true then zq_ab c b else zq_ab b c) && (Q 0 (3 * k + h)).testBit c) := by
    intro c hc
    rw [zq_dn_tb b hb c (List.mem_range.mp hc)]
    rfl
  constructor
  · intro h; refine List.any_eq_false.mpr (fun c hc => ?_); rw [← this c hc]; exact List.any_eq_false.mp h c hc
  · intro h; refine List.any_eq_false.mpr (fun c hc => ?_); rw [this c hc]; exact List.any_eq_false.mp h c hc
theorem zq_cl_up {Q : zq_Q} {k h b : Nat} (hb : b < 28) (hq : Q 0 (3 * k + h) < 2 ^ 28) : (Q 0 (3 * k + h) &&& zq_up b = 0) ↔ zq_cl Q k h b true = false := by
  rw [zq_and0 hq]
  unfold zq_cl zq_has
  have : ∀ c ∈ List.range 28, ((zq_up b).testBit c && (Q 0 (3 * k + h)).testBit c) = ((if true = true then zq_ab c b else zq_ab b c) && (Q 0 (3 * k + h)).testBit c) := by
    intro c hc
    rw [zq_up_tb b hb c (List.mem_range.mp hc)]
    rfl
  constructor
  · intro h; refine List.any_eq_false.mpr (fun c hc => ?_); rw [← this c hc]; exact List.any_eq_false.mp h c hc
  · intro h; refine List.any_eq_false.mpr (fun c hc => ?_); rw [this c hc]; exact List.any_eq_false.mp h c hc
theorem ybc0 : ∀ a, a < 32 → (zf_Int_bitCount (nI a) (fun _ => none, 0)).map Prod.fst = some (nI (zq_pop a)) := by decide +kernel
theorem ybc {a : Nat} (ha : a < 32) (σ : za_h) : zf_Int_bitCount (nI a) σ = some (nI (zq_pop a), σ) := by
  have h := ybc0 a ha
  unfold zf_Int_bitCount at h ⊢
  rw [Option.map_some] at h
  exact congrArg (fun e => some (e, σ)) (Option.some.inj h)
section YT
variable {d : za_h} {x : Nat} {T : Nat → Nat → Nat} {U : Nat → Nat → Option Nat}
/-- the class's trust cells are small -/
def yTb (T : Nat → Nat → Nat) : Prop := ∀ v, v < 5 → T (3 + v) 0 ≤ 6 ∧ T (3 + v) 1 < 32 ∧ T (3 + v) 2 ≤ 5 ∧ T (3 + v) 3 < 32
def yP (T : Nat → Nat → Nat) (set v : Nat) : Bool := zq_sat (T (3 + v) 0) (T (3 + v) 1) (T (3 + v) 2) (T (3 + v) 3) set
theorem ysat (hT : yTb T) {set v : Nat} (hs : set < 32) (hv : v < 5) : zf_Trust_isSatisfiedBy (x + (3 + v)) (nI set) (zx d x T U) = some (nI (yP T set v).toNat, zx d x T U) := by
  obtain ⟨h2, h3, h4, h5⟩ := hT v hv
  have a1 : set &&& T (3 + v) 1 < 32 := Nat.lt_of_le_of_lt Nat.and_le_left hs
  have a2 : set &&& T (3 + v) 3 < 32 := Nat.lt_of_le_of_lt Nat.and_le_left hs
  have p1 := zq_pop_le (set &&& T (3 + v) 1)
  have p2 := zq_pop_le (set &&& T (3 + v) 3)
  unfold zf_Trust_isSatisfiedBy zf_Trust_isSatisfiedBy_36 zf_Trust_isSatisfiedBy_49
  simp only [xt_g0 d x T U hv, xt_g1 d x T U hv, xt_g2 d x T U hv, xt_g3 d x T U hv, Option.bind_some, zn_and, ybc a1, ybc a2, nI_add, zn_le0 (show T (3 + v) 2 < 2 ^ 31 by omega), nI_ltI (show zq_pop (set &&& T (3 + v) 3) < 2 ^ 31 by omega) (show T (3 + v) 2 < 2 ^ 31 by omega), nI_ltI (show zq_pop (set &&& T (3 + v) 1) < 2 ^ 31 by omega) (show T (3 + v) 0 < 2 ^ 31 by omega), nI_ltI (show zq_pop (set &&& T (3 + v) 1) + 1 < 2 ^ 31 by omega) (show T (3 + v) 0 < 2 ^ 31 by omega), z010, z011, if_true]
  unfold yP zq_sat
  by_cases c1 : T (3 + v) 2 = 0
  · have c2 : ¬ (0 < T (3 + v) 2 ∧ T (3 + v) 2 ≤ zq_pop (set &&& T (3 + v) 3)) := by omega
    rw [if_pos c1, if_neg c2]
    by_cases c3 : zq_pop (set &&& T (3 + v) 1) < T (3 + v) 0
    · rw [if_pos c3, decide_eq_false (by omega)]; rfl
    · rw [if_neg c3, decide_eq_true (by omega)]; rfl
  · rw [if_neg c1]
    by_cases c2 : zq_pop (set &&& T (3 + v) 3) < T (3 + v) 2
    · have c4 : ¬ (0 < T (3 + v) 2 ∧ T (3 + v) 2 ≤ zq_pop (set &&& T (3 + v) 3)) := by omega
      rw [if_pos c2, if_neg c4]
      by_cases c3 : zq_pop (set &&& T (3 + v) 1) < T (3 + v) 0
      · rw [if_pos c3, decide_eq_false (by omega)]; rfl
      · rw [if_neg c3, decide_eq_true (by omega)]; rfl
    · have c4 : 0 < T (3 + v) 2 ∧ T (3 + v) 2 ≤ zq_pop (set &&& T (3 + v) 3) := by omega
      rw [if_neg c2, if_pos c4]
      by_cases c3 : zq_pop (set &&& T (3 + v) 1) + 1 < T (3 + v) 0
      · rw [if_pos c3, decide_eq_false (by omega)]; rfl
      · rw [if_neg c3, decide_eq_true (by omega)]; rfl
theorem yblk (hT : yTb T) {set v : Nat} (hs : set < 32) (hv : v < 5) : zf_Trust_isBlockedBy (x + (3 + v)) (nI set) (zx d x T U) = some (nI (!yP T (31 - set) v).toNat, zx d x T U) := by
  unfold zf_Trust_isBlockedBy zf_Trust_isBlockedBy_18
  simp only [xt_c d x T U hv, Option.bind_some, zn_m1, zn_xor, zn_and, zs_n31 set hs, ysat hT (show 31 - set < 32 by omega) hv, z010, z011, if_true]
  cases yP T (31 - set) v
  · rw [if_pos (by decide)]; rfl
  · rw [if_neg (by decide)]; rfl
end YT
/-- sets by their members -/
theorem zq_sub_iff : ∀ a, a < 32 → ∀ b, b < 32 → (zq_sub a b = true ↔ ∀ w, w < 5 → a.testBit w = true → b.testBit w = true) := by decide +kernel
theorem zq_pop_sub : ∀ a, a < 32 → ∀ b, b < 32 → zq_sub a b = true → a ≠ b → zq_pop a < zq_pop b := by decide +kernel
def zq_rm (r u : Nat) : Nat := r &&& (2 ^ u ^^^ 4294967295)
theorem zq_rm_tb : ∀ r, r < 32 → ∀ u, u < 5 → ∀ w, w < 5 → (zq_rm r u).testBit w = (r.testBit w && !(w == u)) := by decide +kernel
theorem zq_rm_lt {r u : Nat} (h : r < 32) : zq_rm r u < 32 := Nat.lt_of_le_of_lt Nat.and_le_left h
theorem zq_pop_mono {a b me : Nat} (h : ∀ w, w < 5 → a.testBit w = true → b.testBit w = true) : zq_pop (a &&& me) ≤ zq_pop (b &&& me) := by
  have st : ∀ w, w < 5 → ((a &&& me).testBit w).toNat ≤ ((b &&& me).testBit w).toNat := by
    intro w hw
    rw [Nat.testBit_and, Nat.testBit_and]
    have := h w hw
    cases ha : a.testBit w
    · simp
    · rw [this ha]; exact Nat.le_refl _
  unfold zq_pop
  have s0 := st 0 (by decide)
  have s1 := st 1 (by decide)
  have s2 := st 2 (by decide)
  have s3 := st 3 (by decide)
  have s4 := st 4 (by decide)
  omega
theorem zq_sat_mono {th me inn gr a b : Nat} (h : ∀ w, w < 5 → a.testBit w = true → b.testBit w = true) (hs : zq_sat th me inn gr a = true) : zq_sat th me inn gr b = true := by
  unfold zq_sat at hs ⊢
  have h1 := of_decide_eq_true hs
  refine decide_eq_true ?_
  have m1 := zq_pop_mono (me := me) h
  have m2 := zq_pop_mono (me := gr) h
  by_cases c : 0 < inn ∧ inn ≤ zq_pop (a &&& gr)
  · rw [if_pos c] at h1; rw [if_pos (by omega)]; omega
  · rw [if_neg c] at h1; split <;> omega
/-- one pass: those whom the rest doesn't satisfy are taken out, one after the other -/
def zq_ps (P : Nat → Nat → Bool) : Nat → Nat → Nat → Nat
  | 0, _, r => r
  | n + 1, u, r => zq_ps P n (u + 1) (if r.testBit u && !P r u then zq_rm r u else r)
theorem zq_ps_s {P : Nat → Nat → Bool} {n u r : Nat} : zq_ps P (n + 1) u r = zq_ps P n (u + 1) (if r.testBit u && !P r u then zq_rm r u else r) := rfl
theorem zq_ps_lt {P : Nat → Nat → Bool} : ∀ n u r, r < 32 → zq_ps P n u r < 32 := by
  intro n
  induction n with
  | zero => intro u r h; exact h
  | succ n ih => intro u r h; rw [zq_ps_s]; exact ih _ _ (by split; exact zq_rm_lt h; exact h)
theorem zq_ps_sub {P : Nat → Nat → Bool} : ∀ n u r, r < 32 → u + n ≤ 5 → ∀ w, w < 5 → (zq_ps P n u r).testBit w = true → r.testBit w = true := by
  intro n
  induction n with
  | zero => intro u r _ _ w _ h; exact h
  | succ n ih =>
    intro u r hr hu w hw h
    rw [zq_ps_s] at h
    have := ih _ _ (by split; exact zq_rm_lt hr; exact hr) (by omega) w hw h
    split at this
    · rw [zq_rm_tb r hr u (by omega) w hw] at this
      simp only [Bool.and_eq_true] at this
      exact this.1
    · exact this
/-- a quorum stays -/
theorem zq_ps_keep {P : Nat → Nat → Bool} (hm : ∀ a b u, u < 5 → (∀ w, w < 5 → a.testBit w = true → b.testBit w = true) → P a u = true → P b u = true) {p : Nat} (hp : ∀ u, u < 5 → p.testBit u = true → P p u = true) : ∀ n u r, r < 32 → u + n ≤ 5 → (∀ w, w < 5 → p.testBit w = true → r.testBit w = true) → ∀ w, w < 5 → p.testBit w = true → (zq_ps P n u r).testBit w = true := by
  intro n
  induction n with
  | zero => intro u r _ _ h w hw hpw; exact h w hw hpw
  | succ n ih =>
    intro u r hr hu h w hw hpw
    rw [zq_ps_s]
    refine ih _ _ (by split; exact zq_rm_lt hr; exact hr) (by omega) (fun w hw hpw => ?_) w hw hpw
    split
    · rename_i hc
      simp only [Bool.and_eq_true, Bool.not_eq_true'] at hc
      rw [zq_rm_tb r hr u (by omega) w hw, h w hw hpw, Bool.true_and]
      by_cases hwu : w = u
      · subst hwu
        have := hm p r w hw h (hp w hw hpw)
        rw [hc.2] at this
        cases this
      · simp [hwu]
    · exact h w hw hpw
/-- nothing was taken out: the rest is a quorum -/
theorem zq_ps_fix {P : Nat → Nat → Bool} : ∀ n u r, r < 32 → u + n ≤ 5 → zq_ps P n u r = r → ∀ w, u ≤ w → w < u + n → r.testBit w = true → P r w = true := by
  intro n
  induction n with
  | zero => intro u r _ _ _ w h1 h2; omega
  | succ n ih =>
    intro u r hr hu h w h1 h2 hw
    rw [zq_ps_s] at h
    have hst : (if r.testBit u && !P r u then zq_rm r u else r) = r := by
      split
      · rename_i hc
        rw [if_pos hc] at h
        simp only [Bool.and_eq_true] at hc
        have := zq_ps_sub (P := P) n (u + 1) (zq_rm r u) (zq_rm_lt hr) (by omega) u (by omega) (by rw [h]; exact hc.1)
        rw [zq_rm_tb r hr u (by omega) u (by omega)] at this
        simp at this
      · rfl
    rw [hst] at h
    by_cases hwu : w = u
    · subst hwu
      cases hp : P r w with
      | true => rfl
      | false =>
        rw [hw, hp] at hst
        have hb := zq_rm_tb r hr w (by omega) w (by omega)
        simp only [Bool.not_false, Bool.and_self, if_true] at hst
        rw [hst, hw] at hb
        simp at hb
    · exact ih (u + 1) r hr (by omega) h w (by omega) (by omega) hw
/-- the class's way to the answer -/
def zq_gq (P : Nat → Nat → Bool) (v : Nat) : Nat → Nat → Bool
  | 0, _ => false
  | n + 1, r => if r.testBit v then (if zq_ps P 5 0 r = r then true else zq_gq P v n (zq_ps P 5 0 r)) else false
theorem zq_gq_s {P : Nat → Nat → Bool} {v n r : Nat} : zq_gq P v (n + 1) r = if r.testBit v then (if zq_ps P 5 0 r = r then true else zq_gq P v n (zq_ps P 5 0 r)) else false := rfl
theorem zq_quo_iff {P : Nat → Nat → Bool} {p : Nat} : zq_quo P p = true ↔ ∀ u, u < 5 → p.testBit u = true → P p u = true := by
  unfold zq_quo
  rw [List.all_eq_true]
  constructor
  · intro h u hu hp
    have := h u (List.mem_range.mpr hu)
    rw [hp] at this
    simpa using this
  · intro h u hu
    cases hp : p.testBit u
    · rfl
    · rw [h u (List.mem_range.mp hu) hp]; rfl
theorem zq_giv_iff {P : Nat → Nat → Bool} {set v : Nat} (hs : set < 32) : zq_giv P set v = true ↔ ∃ p, p < 32 ∧ (∀ w, w < 5 → p.testBit w = true → set.testBit w = true) ∧ p.testBit v = true ∧ ∀ u, u < 5 → p.testBit u = true → P p u = true := by
  unfold zq_giv
  rw [List.any_eq_true]
  constructor
  · rintro ⟨p, hp, h⟩
    simp only [Bool.and_eq_true] at h
    have hp := List.mem_range.mp hp
    exact ⟨p, hp, (zq_sub_iff p hp set hs).mp h.1.1, h.1.2, zq_quo_iff.mp h.2⟩
  · rintro ⟨p, hp, h1, h2, h3⟩
    refine ⟨p, List.mem_range.mpr hp, ?_⟩
    rw [(zq_sub_iff p hp set hs).mpr h1, h2, zq_quo_iff.mpr h3]
    rfl
theorem zq_gq_eq {P : Nat → Nat → Bool} (hm : ∀ a b u, u < 5 → (∀ w, w < 5 → a.testBit w = true → b.testBit w = true) → P a u = true → P b u = true) {set v : Nat} (hs : set < 32) (hv : v < 5) : ∀ n r, r < 32 → zq_pop r ≤ n → (∀ w, w < 5 → r.testBit w = true → set.testBit w = true) → (∀ p, p < 32 → (∀ w, w < 5 → p.testBit w = true → set.testBit w = true) → (∀ u, u < 5 → p.testBit u = true → P p u = true) → ∀ w, w < 5 → p.testBit w = true → r.testBit w = true) → zq_gq P v n r = zq_giv P set v := by
  intro n
  induction n with
  | zero =>
    intro r hr hp hsub hall
    have hno : r.testBit v = false := by
      have : ∀ r, r < 32 → zq_pop r ≤ 0 → ∀ v, v < 5 → r.testBit v = false := by decide +kernel
      exact this r hr hp v hv
    show false = _
    cases hg : zq_giv P set v with
    | false => rfl
    | true =>
      obtain ⟨p, h1, h2, h3, h4⟩ := (zq_giv_iff hs).mp hg
      rw [hall p h1 h2 h4 v hv h3] at hno
      cases hno
  | succ n ih =>
    intro r hr hp hsub hall
    rw [zq_gq_s]
    cases hrv : r.testBit v
    · show false = _
      cases hg : zq_giv P set v with
      | false => rfl
      | true =>
        obtain ⟨p, h1, h2, h3, h4⟩ := (zq_giv_iff hs).mp hg
        rw [hall p h1 h2 h4 v hv h3] at hrv
        cases hrv
    · rw [if_pos rfl]
      by_cases hf : zq_ps P 5 0 r = r
      · rw [if_pos hf]
        refine ((zq_giv_iff hs).mpr ⟨r, hr, hsub, hrv, fun u hu hru => ?_⟩).symm
        exact zq_ps_fix 5 0 r hr (by decide) hf u (by omega) (by omega) hru
      · rw [if_neg hf]
        have hlt := zq_ps_lt (P := P) 5 0 r hr
        have hss := zq_ps_sub (P := P) 5 0 r hr (by decide)
        refine ih _ hlt ?_ (fun w hw h => hsub w hw (hss w hw h)) (fun p h1 h2 h4 w hw hpw => ?_)
        · have := zq_pop_sub _ hlt r hr ((zq_sub_iff _ hlt r hr).mpr hss) hf
          omega
        · exact zq_ps_keep hm h4 5 0 r hr (by decide) (hall p h1 h2 h4) w hw hpw
