/-! The reference: trust, quorums. -/
theorem zs_in (x lo hi : Int32) (σ : za_h) : zf_Mo_in x lo hi σ = some (nI (decide (lo ≤ x ∧ x ≤ hi)).toNat, σ) := by
  unfold zf_Mo_in
  by_cases h1 : x < lo
  · have h : ¬ (lo ≤ x ∧ x ≤ hi) := fun h => absurd h1 (Int32.not_lt.mpr h.1)
    rw [if_pos h1, decide_eq_false h]
    rfl
  · rw [if_neg h1]
    by_cases h2 : hi < x
    · have h : ¬ (lo ≤ x ∧ x ≤ hi) := fun h => absurd h2 (Int32.not_lt.mpr h.2)
      rw [if_pos h2, decide_eq_false h]
      rfl
    · rw [if_neg h2, decide_eq_true ⟨Int32.not_lt.mp h1, Int32.not_lt.mp h2⟩]
      rfl
theorem zs_many {a : Nat} (ha : a < 2 ^ 31) (σ : za_h) : zf_Mo_many (nI a) σ = some (nI (zq_pop a), σ) := by
  have e : ∀ b, b < 5 → ¬ nI 5 ≤ nI b := fun b h => nI_ge h (by decide)
  unfold zf_Mo_many
  simp only [zf_Mo_many_4, nI_add, Nat.reduceAdd, e 0 (by decide), e 1 (by decide), e 2 (by decide), e 3 (by decide), e 4 (by decide), if_false, zn_bit ha (show 0 < 32 by decide), zn_bit ha (show 1 < 32 by decide), zn_bit ha (show 2 < 32 by decide), zn_bit ha (show 3 < 32 by decide), zn_bit ha (show 4 < 32 by decide), Int32.le_refl, if_true]
  simp [zq_pop]
/-- the trust's numbers are small -/
def zs_Tb (S : Nat → Nat → Nat) : Prop := ∀ v, v < 5 → S 2 v ≤ 6 ∧ S 3 v < 32 ∧ S 4 v ≤ 5 ∧ S 5 v < 32
def zs_P (S : Nat → Nat → Nat) (set v : Nat) : Bool := zq_sat (S 2 v) (S 3 v) (S 4 v) (S 5 v) set
theorem zq_pop_le (n : Nat) : zq_pop n ≤ 5 := by
  unfold zq_pop
  cases n.testBit 0 <;> cases n.testBit 1 <;> cases n.testBit 2 <;> cases n.testBit 3 <;> cases n.testBit 4 <;> decide
theorem zs_sat {S : Nat → Nat → Nat} (hT : zs_Tb S) {d : za_h} {m set v : Nat} (hs : set < 32) (hv : v < 5) : zf_Mo_satisfies m (nI set) (nI v) (zr d m S) = some (nI (zs_P S set v).toNat, zr d m S) := by
  obtain ⟨h2, h3, h4, h5⟩ := hT v hv
  have a1 : set &&& S 3 v < 2 ^ 31 := Nat.lt_of_le_of_lt Nat.and_le_left (by omega)
  have a2 : set &&& S 5 v < 2 ^ 31 := Nat.lt_of_le_of_lt Nat.and_le_left (by omega)
  have p1 := zq_pop_le (set &&& S 3 v)
  have p2 := zq_pop_le (set &&& S 5 v)
  unfold zf_Mo_satisfies
  simp only [zr_g3, zr_g4, zr_g5, Option.bind_some, zr_l3 hv, zr_l4 hv, zr_l5 hv, zn_and, zs_many a1, zs_many a2]
  unfold zf_Mo_satisfies_50
  unfold zf_Mo_satisfies_51
  simp only [zr_g2, Option.bind_some, zr_l2 hv, nI_add, nI_leI, zn_le0 (show S 4 v < 2 ^ 31 by omega), nI_ltI (show zq_pop (set &&& S 5 v) < 2 ^ 31 by omega) (show S 4 v < 2 ^ 31 by omega)]
  simp only [nI_ltI (show zq_pop (set &&& S 3 v) + 0 < 2 ^ 31 by omega) (show S 2 v < 2 ^ 31 by omega), nI_ltI (show zq_pop (set &&& S 3 v) + 1 < 2 ^ 31 by omega) (show S 2 v < 2 ^ 31 by omega)]
  unfold zs_P zq_sat zf_Mo_satisfies_66
  by_cases c1 : S 4 v = 0
  · have c2 : ¬ (0 < S 4 v ∧ S 4 v ≤ zq_pop (set &&& S 5 v)) := by omega
    rw [if_pos c1, if_neg c2]
    by_cases c3 : zq_pop (set &&& S 3 v) + 0 < S 2 v
    · rw [if_pos c3, decide_eq_false (by omega)]; rfl
    · rw [if_neg c3, decide_eq_true (by omega)]; rfl
  · rw [if_neg c1]
    by_cases c2 : zq_pop (set &&& S 5 v) < S 4 v
    · have c4 : ¬ (0 < S 4 v ∧ S 4 v ≤ zq_pop (set &&& S 5 v)) := by omega
      rw [if_pos c2, if_neg c4]
      by_cases c3 : zq_pop (set &&& S 3 v) + 0 < S 2 v
      · rw [if_pos c3, decide_eq_false (by omega)]; rfl
      · rw [if_neg c3, decide_eq_true (by omega)]; rfl
    · have c4 : 0 < S 4 v ∧ S 4 v ≤ zq_pop (set &&& S 5 v) := by omega
      rw [if_neg c2, if_pos c4]
      by_cases c3 : zq_pop (set &&& S 3 v) + 1 < S 2 v
      · rw [if_pos c3, decide_eq_false (by omega)]; rfl
      · rw [if_neg c3, decide_eq_true (by omega)]; rfl

/-- the table of quorums -/
theorem zs_bb {p : Bool} : nI p.toNat = 0 ↔ ¬ p = true := by cases p <;> decide
theorem zr_eq {d : za_h} {m : Nat} {S S' : Nat → Nat → Nat} (h : ∀ a b, S a b = S' a b) : zr d m S = zr d m S' := by
  have : S = S' := by funext a b; exact h a b
  rw [this]
theorem u2_u2 {S : Nat → Nat → Nat} {k i v w : Nat} : u2 (u2 S k i v) k i w = u2 S k i w := by
  funext a b; unfold u2; by_cases h : a = k ∧ b = i <;> simp [h]
theorem u2_id {S : Nat → Nat → Nat} {k i : Nat} : u2 S k i (S k i) = S := by
  funext a b; unfold u2; by_cases h : a = k ∧ b = i
  · simp [h]
  · simp [h]
theorem zs_Tb_u {S : Nat → Nat → Nat} {k i v : Nat} (hk : 5 < k) (h : zs_Tb S) : zs_Tb (u2 S k i v) := by
  intro w hw
  rw [u2_k (by omega), u2_k (by omega), u2_k (by omega), u2_k (by omega)]
  exact h w hw
theorem zs_P_u {S : Nat → Nat → Nat} {k i v : Nat} (hk : 5 < k) : zs_P (u2 S k i v) = zs_P S := by
  funext a b; unfold zs_P
  rw [u2_k (by omega), u2_k (by omega), u2_k (by omega), u2_k (by omega)]
/-- the inner loop: is any member of the set unsatisfied -/
theorem zs_table17 {S : Nat → Nat → Nat} (hT : zs_Tb S) {d : za_h} {m set : Nat} (hs : set < 32) (k2 : Nat → Int32 → za_h → Option (Unit × za_h)) :
    ∀ (r v f q : Nat), v + r = 5 → r < f → zf_Mo_table_17 k2 f m (nI set) (nI v) (zr d m (u2 S 6 set q)) = k2 m (nI set + nI 1) (zr d m (u2 S 6 set (if ((List.range' v r).all fun w => !set.testBit w || zs_P S set w) then q else 0))) := by
  intro r
  induction r with
  | zero =>
    intro v f q hv hf
    obtain ⟨f, rfl⟩ : ∃ g, f = g + 1 := ⟨f - 1, by omega⟩
    obtain rfl : v = 5 := by omega
    rw [zf_Mo_table_17, if_pos (Int32.le_refl _)]
    simp
  | succ r ih =>
    intro v f q hv hf
    obtain ⟨f, rfl⟩ : ∃ g, f = g + 1 := ⟨f - 1, by omega⟩
    rw [zf_Mo_table_17, if_neg (nI_ge (by omega) (by decide)), zn_bit (by omega) (by omega)]
    unfold zf_Mo_table_47
    rw [List.range'_succ, List.all_cons]
    by_cases hb : set.testBit v = true
    · rw [if_pos ((zn_b1 _).mpr hb)]
      have e1 : zg_c (zr d m (u2 S 6 set q)) m 10 = some () := zr_gc _ _ _
      have e2 := zs_sat (zs_Tb_u (k := 6) (i := set) (v := q) (by decide) hT) (d := d) (m := m) hs (show v < 5 by omega)
      rw [zs_P_u (by decide)] at e2
      simp only [e1, e2, Option.bind_some, zr_g6, zn_nar0]
      by_cases hp : zs_P S set v = true
      · rw [if_neg (fun h => zs_bb.mp h hp), nI_add v 1, ih (v + 1) f q (by omega) (by omega)]
        rw [show (!set.testBit v || zs_P S set v) = true by rw [hp, Bool.or_true], Bool.true_and]
      · rw [if_pos (zs_bb.mpr hp)]
        have e3 := zr_s6 (d := d) (m := m) (v := 0) (S := u2 S 6 set q) hs
        rw [e3]
        simp only [Option.bind_some, u2_u2]
        rw [nI_add v 1, ih (v + 1) f 0 (by omega) (by omega)]
        rw [show (!set.testBit v || zs_P S set v) = false by rw [hb, Bool.eq_false_iff.mpr hp]; rfl, Bool.false_and]
        simp
    · rw [if_neg (fun h => hb ((zn_b1 _).mp h)), nI_add v 1, ih (v + 1) f q (by omega) (by omega)]
      rw [show (!set.testBit v || zs_P S set v) = true by rw [Bool.eq_false_iff.mpr hb]; rfl, Bool.true_and]
/-- what the table holds when it is made -/
def zs_tab (S : Nat → Nat → Nat) (n : Nat) : Nat → Nat → Nat := fun a b => if a = 6 ∧ b < n then (zq_quo (zs_P S) b).toNat else S a b
theorem zs_table2 {S : Nat → Nat → Nat} (hT : zs_Tb S) {d : za_h} {m : Nat} : ∀ (r set f : Nat), set + r = 32 → r < f → zf_Mo_table_2 f m (nI set) (zr d m (zs_tab S set)) = some ((), zr d m (zs_tab S 32)) := by
  intro r
  induction r with
  | zero =>
    intro set f hs hf
    obtain ⟨f, rfl⟩ : ∃ g, f = g + 1 := ⟨f - 1, by omega⟩
    obtain rfl : set = 32 := by omega
    rw [zf_Mo_table_2, if_pos (Int32.le_refl _)]
  | succ r ih =>
    intro set f hs hf
    obtain ⟨f, rfl⟩ : ∃ g, f = g + 1 := ⟨f - 1, by omega⟩
    have hlt : set < 32 := by omega
    have hT' : zs_Tb (zs_tab S set) := by
      intro w hw
      have h := hT w hw
      simpa [zs_tab] using h
    have hP' : zs_P (zs_tab S set) = zs_P S := by
      funext a b; simp [zs_P, zs_tab]
    rw [zf_Mo_table_2, if_neg (nI_ge hlt (by decide))]
    simp only [zr_g6, Option.bind_some, zn_nar1, zr_s6 hlt]
    rw [zs_table17 hT' hlt _ 5 0 33 1 (by decide) (by decide), nI_add, hP']
    rw [show (u2 (zs_tab S set) 6 set (if ((List.range' 0 5).all fun w => !set.testBit w || zs_P S set w) = true then 1 else 0)) = zs_tab S (set + 1) from ?_]
    · exact ih (set + 1) f (by omega) (by omega)
    · funext a b
      unfold u2 zs_tab
      have hq : (zq_quo (zs_P S) set).toNat = if ((List.range' 0 5).all fun w => !set.testBit w || zs_P S set w) = true then 1 else 0 := by
        have : zq_quo (zs_P S) set = ((List.range' 0 5).all fun w => !set.testBit w || zs_P S set w) := rfl
        rw [this]
        cases ((List.range' 0 5).all fun w => !set.testBit w || zs_P S set w) <;> rfl
      by_cases h1 : a = 6
      · subst h1
        by_cases h2 : b = set
        · subst h2
          have z1 : (6 = 6 ∧ b = b) := ⟨rfl, rfl⟩
          have z2 : (6 = 6 ∧ b < b + 1) := ⟨rfl, by omega⟩
          rw [if_pos z1, if_pos z2, hq]
        · simp only [h2, and_false, if_false]
          by_cases h3 : b < set
          · simp [h3, show b < set + 1 by omega]
          · simp [h3, show ¬ b < set + 1 by omega]
      · simp [h1]
theorem zs_table {S : Nat → Nat → Nat} (hT : zs_Tb S) (d : za_h) (m : Nat) : zf_Mo_table m (zr d m S) = some ((), zr d m (zs_tab S 32)) := by
  unfold zf_Mo_table
  have e : zr d m S = zr d m (zs_tab S 0) := zr_eq fun a b => by simp [zs_tab]
  rw [e, zs_table2 hT 32 0 33 (by decide) (by decide)]
theorem zs_subi : ∀ a, a < 32 → ∀ b, b < 32 → ((a &&& (b ^^^ 4294967295) = 0) ↔ zq_sub a b = true) := by decide +kernel
theorem zs_gives2 {S : Nat → Nat → Nat} (hq : ∀ p, p < 32 → S 6 p = (zq_quo (zs_P S) p).toNat) {d : za_h} {m set v : Nat} (hs : set < 32) (hv : v < 5) :
    ∀ (r p f : Nat), p + r = 32 → r < f → zf_Mo_gives_2 f m (nI set) (nI v) (nI p) (zr d m S) = some (nI ((List.range' p r).any fun part => zq_sub part set && part.testBit v && zq_quo (zs_P S) part).toNat, zr d m S) := by
  intro r
  induction r with
  | zero =>
    intro p f hp hf
    obtain ⟨f, rfl⟩ : ∃ g, f = g + 1 := ⟨f - 1, by omega⟩
    obtain rfl : p = 32 := by omega
    rw [zf_Mo_gives_2, if_pos (Int32.le_refl _)]
    rfl
  | succ r ih =>
    intro p f hp hf
    obtain ⟨f, rfl⟩ : ∃ g, f = g + 1 := ⟨f - 1, by omega⟩
    have hlt : p < 32 := by omega
    rw [zf_Mo_gives_2, if_neg (nI_ge hlt (by decide)), zn_m1, zn_xor, zn_and, List.range'_succ, List.any_cons]
    have hx : p &&& (set ^^^ 4294967295) < 2 ^ 31 := Nat.lt_of_le_of_lt Nat.and_le_left (by omega)
    unfold zf_Mo_gives_36
    rw [nI_add, ih (p + 1) f (by omega) (by omega)]
    by_cases h1 : zq_sub p set = true
    · rw [if_pos ((zn_eq0 hx).mpr ((zs_subi p hlt set hs).mpr h1)), zn_bit (by omega) (by omega)]
      by_cases h2 : p.testBit v = true
      · rw [if_pos ((zn_b1 _).mpr h2)]
        simp only [zr_g6, Option.bind_some, zr_l6 hlt, hq p hlt]
        by_cases h3 : zq_quo (zs_P S) p = true
        · rw [if_neg (fun h => zs_bb.mp h h3)]
          simp [h1, h2, h3]
        · rw [if_pos (zs_bb.mpr h3)]
          simp [h3]
      · rw [if_neg (fun h => h2 ((zn_b1 _).mp h))]
        simp [h2]
    · rw [if_neg (fun h => h1 ((zs_subi p hlt set hs).mp ((zn_eq0 hx).mp h)))]
      simp [h1]
theorem zs_gives {S : Nat → Nat → Nat} (hq : ∀ p, p < 32 → S 6 p = (zq_quo (zs_P S) p).toNat) {d : za_h} {m set v : Nat} (hs : set < 32) (hv : v < 5) : zf_Mo_gives m (nI set) (nI v) (zr d m S) = some (nI (zq_giv (zs_P S) set v).toNat, zr d m S) := by
  unfold zf_Mo_gives
  rw [zs_gives2 hq hs hv 32 0 33 (by decide) (by decide)]
  rfl
