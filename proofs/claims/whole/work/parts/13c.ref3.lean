/-! The reference: who backed and accepted, what may be accepted and confirmed. -/
section RV
variable {S : Nat → Nat → Nat} {v : Nat} {d : za_h} {m : Nat} {Q : zq_Q}
def zq_who (v : Nat) (Q : zq_Q) (k b : Nat) (acc : Bool) (u : Nat) : Bool := if u = v then zq_has Q k 1 b || (!acc && zq_has Q k 0 b) else (Q 1 (6 * u + 2 * k + acc.toNat)).testBit b
theorem zs_nodes_step (hC : zc S v) (hB : zq_B Q) {k b u a n : Nat} {acc : Bool} (hk : k < 3) (hb : b < 28) (hu : u < 5) (ha : a < 32) :
    zf_Mo_nodes_6 (n + 1) m (nI v) (nI k) (nI b) (nI acc.toNat) (nI a) (nI u) (zr d m (zw S v Q)) = zf_Mo_nodes_6 n m (nI v) (nI k) (nI b) (nI acc.toNat) (nI (if zq_who v Q k b acc u then a ||| 2 ^ u else a)) (nI (u + 1)) (zr d m (zw S v Q)) := by
  have hv := hC.1
  have hi : 6 * u + 2 * k + acc.toNat < 30 := by cases acc <;> simp <;> omega
  have hi0 : 30 * v + (6 * u + 2 * k) + acc.toNat < 150 := by omega
  have hk2 := hB.2.1 _ hi
  have key : ∀ own : Bool, zf_Mo_nodes_44 (zf_Mo_nodes_6 n) m (nI v) (nI k) (nI b) (nI acc.toNat) (nI a) (nI u) (nI own.toNat) (zr d m (zw S v Q)) = zf_Mo_nodes_6 n m (nI v) (nI k) (nI b) (nI acc.toNat) (nI (if (if u = v then own else (Q 1 (6 * u + 2 * k + acc.toNat)).testBit b) then a ||| 2 ^ u else a)) (nI (u + 1)) (zr d m (zw S v Q)) := by
    intro own
    have e74 : zf_Mo_nodes_74 (zf_Mo_nodes_6 n) m (nI v) (nI k) (nI b) (nI acc.toNat) (nI a) (nI u) (nI own.toNat) (m + 12) (nI (30 * v + 6 * u + 2 * k)) (nI acc.toNat) (zr d m (zw S v Q)) = zf_Mo_nodes_6 n m (nI v) (nI k) (nI b) (nI acc.toNat) (nI (if (if u = v then own else (Q 1 (6 * u + 2 * k + acc.toNat)).testBit b) then a ||| 2 ^ u else a)) (nI (u + 1)) (zr d m (zw S v Q)) := by
      have e104 : ∀ p : Bool, zf_Mo_nodes_104 (zf_Mo_nodes_6 n) m (nI v) (nI k) (nI b) (nI acc.toNat) (nI a) (nI u) (nI p.toNat) (zr d m (zw S v Q)) = zf_Mo_nodes_6 n m (nI v) (nI k) (nI b) (nI acc.toNat) (nI (if p then a ||| 2 ^ u else a)) (nI (u + 1)) (zr d m (zw S v Q)) := by
        intro p
        unfold zf_Mo_nodes_104 zf_Mo_nodes_123
        cases p
        · rw [if_pos (by decide), nI_add]; rfl
        · rw [if_neg (by decide), nI_add, zn_shl (by omega), zn_or, Nat.one_mul]; rfl
      unfold zf_Mo_nodes_74
      rw [nI_add, show 30 * v + 6 * u + 2 * k + acc.toNat = 30 * v + (6 * u + 2 * k + acc.toNat) by omega, zr_l13 (by omega), zw_13 hi]
      simp only [Option.bind_some]
      rw [zn_bit (by omega) (by omega)]
      by_cases huv : u = v
      · rw [if_pos (by rw [huv]), e104, if_pos huv]
      · rw [if_neg (fun h => huv ((nI_eq (by omega) (by omega)).mp h)), if_neg huv]
        cases hq : (Q 1 (6 * u + 2 * k + acc.toNat)).testBit b
        · rw [if_neg (by decide)]; exact e104 false
        · rw [if_pos rfl]; exact e104 true
    unfold zf_Mo_nodes_44
    simp only [zr_g13, Option.bind_some, pk_mul, nI_add]
    cases acc
    · rw [if_pos (by decide)]; exact e74
    · rw [if_neg (by decide)]; exact e74
  rw [zf_Mo_nodes_6, if_neg (nI_ge hu (by decide))]
  simp only [zr_gc, Option.bind_some, show nI 1 = nI 1 from rfl, zs_has hC hB hk (show 1 < 3 by decide) hb, zs_has hC hB hk (show 0 < 3 by decide) hb]
  unfold zf_Mo_nodes_39 zf_Mo_nodes_43
  unfold zq_who
  cases h1 : zq_has Q k 1 b
  · rw [if_pos (by decide)]
    cases acc
    · rw [if_pos (by decide)]
      cases h0 : zq_has Q k 0 b
      · rw [if_pos (by decide)]; exact key false
      · rw [if_neg (by decide)]; exact key true
    · rw [if_neg (by decide)]; exact key false
  · rw [if_neg (by decide)]
    have := key true
    simpa using this
theorem zs_nodes (hC : zc S v) (hB : zq_B Q) {k b : Nat} {acc : Bool} (hk : k < 3) (hb : b < 28) :
    zf_Mo_nodes m (nI v) (nI k) (nI b) (nI acc.toNat) (zr d m (zw S v Q)) = some (nI (zq_b5 (zq_who v Q k b acc)), zr d m (zw S v Q)) := by
  unfold zf_Mo_nodes
  generalize hp : zq_who v Q k b acc = p
  have st : ∀ {u a n : Nat}, u < 5 → a < 32 → zf_Mo_nodes_6 (n + 1) m (nI v) (nI k) (nI b) (nI acc.toNat) (nI a) (nI u) (zr d m (zw S v Q)) = zf_Mo_nodes_6 n m (nI v) (nI k) (nI b) (nI acc.toNat) (nI (if p u then a ||| 2 ^ u else a)) (nI (u + 1)) (zr d m (zw S v Q)) := by
    intro u a n hu ha
    rw [zs_nodes_step hC hB hk hb hu ha, hp]
  have lt : ∀ {u a : Nat}, u < 5 → a < 32 → (if p u then a ||| 2 ^ u else a) < 32 := by
    intro u a hu ha
    split
    · exact Nat.or_lt_two_pow (n := 5) ha (Nat.pow_lt_pow_right (by decide) hu)
    · exact ha
  have a1 := lt (u := 0) (a := 0) (by decide) (by decide)
  have a2 := lt (u := 1) (by decide) a1
  have a3 := lt (u := 2) (by decide) a2
  have a4 := lt (u := 3) (by decide) a3
  have a5 := lt (u := 4) (by decide) a4
  rw [st (by decide) (by decide), st (by decide) a1, st (by decide) a2, st (by decide) a3, st (by decide) a4, zf_Mo_nodes_6, if_pos (Int32.le_refl _)]
  congr 3
  unfold zq_b5
  cases p 0 <;> cases p 1 <;> cases p 2 <;> cases p 3 <;> cases p 4 <;> rfl
theorem zs_bk (hC : zc S v) (hB : zq_B Q) {k b : Nat} (hk : k < 3) (hb : b < 28) : zf_Mo_nodes m (nI v) (nI k) (nI b) (nI 0) (zr d m (zw S v Q)) = some (nI (zq_bk v Q k b), zr d m (zw S v Q)) := by
  have h := zs_nodes (m := m) (d := d) (acc := false) hC hB hk hb
  rw [show zq_who v Q k b false = (fun u => if u = v then zq_has Q k 1 b || zq_has Q k 0 b else (Q 1 (6 * u + 2 * k)).testBit b) from by funext u; simp [zq_who]] at h
  exact h
theorem zs_ac (hC : zc S v) (hB : zq_B Q) {k b : Nat} (hk : k < 3) (hb : b < 28) : zf_Mo_nodes m (nI v) (nI k) (nI b) (nI 1) (zr d m (zw S v Q)) = some (nI (zq_ac v Q k b), zr d m (zw S v Q)) := by
  have h := zs_nodes (m := m) (d := d) (acc := true) hC hB hk hb
  rw [show zq_who v Q k b true = (fun u => if u = v then zq_has Q k 1 b else (Q 1 (6 * u + 2 * k + 1)).testBit b) from by funext u; simp [zq_who]] at h
  exact h
theorem zs_worth {b : Nat} (hb : b < 2 ^ 30) (σ : za_h) : zf_Mo_worth (nI b) σ = some (nI (zq_wo b), σ) := by
  unfold zf_Mo_worth zq_wo
  rw [pk_rem (by omega) (by decide) (by decide), nI_add]
theorem zs_aborts {b c : Nat} (hb : b < 28) (hc : c < 28) (σ : za_h) : zf_Mo_aborts (nI b) (nI c) σ = some (nI (zq_ab b c).toNat, σ) := by
  unfold zf_Mo_aborts zf_Mo_aborts_20 zf_Mo_aborts_21 zq_ab
  have w1 : zq_wo b < 2 ^ 31 := by unfold zq_wo; omega
  have w2 : zq_wo c < 2 ^ 31 := by unfold zq_wo; omega
  simp only [nI_leI (show b < 2 ^ 31 by omega) (show c < 2 ^ 31 by omega), zs_worth (show b < 2 ^ 30 by omega), zs_worth (show c < 2 ^ 30 by omega), Option.bind_some, nI_eq w2 w1, z010, z011, if_true]
  by_cases h1 : b ≤ c
  · rw [if_pos h1, decide_eq_false (by omega)]; rfl
  · rw [if_neg h1, decide_eq_true (show c < b by omega)]
    by_cases h2 : zq_wo c = zq_wo b
    · rw [if_pos h2]; simp [h2]
    · rw [if_neg h2, beq_false_of_ne h2]; rfl
theorem zs_clash3 (hC : zc S v) (hB : zq_B Q) {k h b : Nat} {over : Bool} (hk : k < 3) (hh : h < 3) (hb : b < 28) :
    ∀ (r c f : Nat), c + r = 28 → r < f → zf_Mo_clash_3 f m (nI v) (nI k) (nI h) (nI b) (nI over.toNat) (nI c) (zr d m (zw S v Q)) = some (nI ((List.range' c r).any fun c => (if over then zq_ab c b else zq_ab b c) && zq_has Q k h c).toNat, zr d m (zw S v Q)) := by
  intro r
  induction r with
  | zero =>
    intro c f hc hf
    obtain ⟨f, rfl⟩ : ∃ g, f = g + 1 := ⟨f - 1, by omega⟩
    obtain rfl : c = 28 := by omega
    rw [zf_Mo_clash_3, if_pos (Int32.le_refl _)]
    rfl
  | succ r ih =>
    intro c f hc hf
    obtain ⟨f, rfl⟩ : ∃ g, f = g + 1 := ⟨f - 1, by omega⟩
    have hlt : c < 28 := by omega
    have e32 : ∀ p : Bool, zf_Mo_clash_32 (zf_Mo_clash_3 f) m (nI v) (nI k) (nI h) (nI b) (nI over.toNat) (nI c) (nI p.toNat) (zr d m (zw S v Q)) = some (nI ((p && zq_has Q k h c) || ((List.range' (c + 1) r).any fun c => (if over then zq_ab c b else zq_ab b c) && zq_has Q k h c)).toNat, zr d m (zw S v Q)) := by
      intro p
      unfold zf_Mo_clash_32 zf_Mo_clash_53
      simp only [zr_gc, Option.bind_some, zs_has hC hB hk hh hlt, nI_add, ih (c + 1) f (by omega) (by omega)]
      cases p
      · rw [if_pos (by decide)]; simp
      · rw [if_neg (by decide)]
        cases hq : zq_has Q k h c
        · rw [if_pos (by decide)]; simp
        · rw [if_neg (by decide)]; simp
    rw [zf_Mo_clash_3, if_neg (nI_ge hlt (by decide)), List.range'_succ, List.any_cons]
    cases over
    · rw [if_pos (by decide), zs_aborts hb hlt]
      simp only [Option.bind_some]
      exact e32 _
    · rw [if_neg (by decide), zs_aborts hlt hb]
      simp only [Option.bind_some]
      exact e32 _
theorem zs_clash (hC : zc S v) (hB : zq_B Q) {k h b : Nat} {over : Bool} (hk : k < 3) (hh : h < 3) (hb : b < 28) : zf_Mo_clash m (nI v) (nI k) (nI h) (nI b) (nI over.toNat) (zr d m (zw S v Q)) = some (nI (zq_cl Q k h b over).toNat, zr d m (zw S v Q)) := by
  unfold zf_Mo_clash
  rw [zs_clash3 hC hB hk hh hb 28 0 29 (by decide) (by decide)]
  unfold zq_cl
  rw [List.range_eq_range']
theorem zs_n31 : ∀ a, a < 32 → 31 &&& (a ^^^ 4294967295) = 31 - a := by decide +kernel
theorem zs_mayAccept (hC : zc S v) (hB : zq_B Q) {k b : Nat} (hk : k < 3) (hb : b < 28) : zf_Mo_mayAccept m (nI v) (nI k) (nI b) (zr d m (zw S v Q)) = some (nI (zq_may (zs_P S) v Q k b).toNat, zr d m (zw S v Q)) := by
  have hv := hC.1
  have hac : zq_ac v Q k b < 32 := zq_b5_lt _
  have hbk : zq_bk v Q k b < 32 := zq_b5_lt _
  have c1 := zs_clash (m := m) (d := d) (k := 2) (h := 1) (b := b) (over := false) hC hB (by decide) (by decide) hb
  have c2 := zs_clash (m := m) (d := d) (k := 1) (h := 1) (b := b) (over := true) hC hB (by decide) (by decide) hb
  rw [zfn] at c1
  rw [ztn] at c2
  have e36 : zf_Mo_mayAccept_36 m (nI v) (nI k) (nI b) (zr d m (zw S v Q)) = some (nI (!(zs_P S (31 - zq_ac v Q k b) v) || zq_giv (zs_P S) (zq_bk v Q k b) v).toNat, zr d m (zw S v Q)) := by
    unfold zf_Mo_mayAccept_36 zf_Mo_mayAccept_76 zf_Mo_mayAccept_93 zf_Mo_mayAccept_98
    simp only [zr_gc, Option.bind_some, zs_bk hC hB hk hb, zs_ac hC hB hk hb, zn_m1, zn_xor, zn_and, zs_n31 _ hac, zs_satw hC (show 31 - zq_ac v Q k b < 32 by omega) hv, zs_givw hC hbk hv, z010, z011, z00, z10, if_true, if_false]
    cases zs_P S (31 - zq_ac v Q k b) v
    · rw [if_pos (by decide)]; rfl
    · rw [if_neg (by decide)]
      cases zq_giv (zs_P S) (zq_bk v Q k b) v
      · rw [if_pos (by decide)]; rfl
      · rw [if_neg (by decide)]; rfl
  have e17 : zf_Mo_mayAccept_17 m (nI v) (nI k) (nI b) (zr d m (zw S v Q)) = some (nI (!(k == 2 && zq_cl Q 1 1 b true) && (!(zs_P S (31 - zq_ac v Q k b) v) || zq_giv (zs_P S) (zq_bk v Q k b) v)).toNat, zr d m (zw S v Q)) := by
    unfold zf_Mo_mayAccept_17 zf_Mo_mayAccept_34
    simp only [zr_gc, Option.bind_some, c2, e36, nI_eq (show k < 2 ^ 31 by omega) (show 2 < 2 ^ 31 by decide)]
    by_cases h2 : k = 2
    · rw [if_pos h2]
      cases zq_cl Q 1 1 b true
      · rw [if_pos (by decide)]; simp
      · rw [if_neg (by decide)]; simp [h2]
    · rw [if_neg h2, beq_false_of_ne h2]; simp
  unfold zf_Mo_mayAccept zf_Mo_mayAccept_34
  simp only [zr_gc, Option.bind_some, c1, e17, nI_eq (show k < 2 ^ 31 by omega) (show 1 < 2 ^ 31 by decide)]
  unfold zq_may
  by_cases h1 : k = 1
  · rw [if_pos h1]
    cases zq_cl Q 2 1 b false
    · rw [if_pos (by decide)]; simp
    · rw [if_neg (by decide)]; simp [h1]
  · rw [if_neg h1, beq_false_of_ne h1]; simp
theorem zs_mayConfirm (hC : zc S v) (hB : zq_B Q) {k b : Nat} (hk : k < 3) (hb : b < 28) : zf_Mo_mayConfirm m (nI v) (nI k) (nI b) (zr d m (zw S v Q)) = some (nI (zq_cf (zs_P S) v Q k b).toNat, zr d m (zw S v Q)) := by
  have hac : zq_ac v Q k b < 32 := zq_b5_lt _
  unfold zf_Mo_mayConfirm
  simp only [zr_gc, Option.bind_some, zs_ac hC hB hk hb, zs_givw hC hac hC.1, z01, if_true]
  rfl
end RV
