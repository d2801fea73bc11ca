/-! The reference's other calls. -/
def zo_kin (e : Nat) (k : Int32) : Bool := (List.range e).any fun j => decide (k = nI j)
theorem zo_kin_t {e : Nat} {k : Int32} (h : zo_kin e k = true) : ∃ j, j < e ∧ k = nI j := by
  unfold zo_kin at h
  obtain ⟨v, h1, h2⟩ := List.any_eq_true.mp h
  exact ⟨v, List.mem_range.mp h1, of_decide_eq_true h2⟩
theorem zo_kin_i {e j : Nat} (h : j < e) : zo_kin e (nI j) = true := by
  unfold zo_kin
  exact List.any_eq_true.mpr ⟨j, List.mem_range.mpr h, by simp⟩
theorem zo_kin_in {e : Nat} (he : e < 2 ^ 31) {k : Int32} : decide (nI 0 ≤ k ∧ k ≤ nI e - nI 1) = zo_kin e k := by
  by_cases h0 : e = 0
  · subst h0
    have : ¬ (nI 0 ≤ k ∧ k ≤ nI 0 - nI 1) := by
      intro h
      have h1 := Int32.le_iff_toInt_le.mp h.1
      have h2 := Int32.le_iff_toInt_le.mp h.2
      have e1 : (nI 0).toInt = 0 := by decide
      have e2 : (nI 0 - nI 1).toInt = -1 := by decide
      omega
    rw [decide_eq_false this]; rfl
  · rw [pk_sub (show 1 ≤ e by omega)]
    cases hk : zo_kin e k with
    | true =>
      obtain ⟨j, h1, rfl⟩ := zo_kin_t hk
      exact decide_eq_true (zn_b5 (by omega) (by omega))
    | false =>
      refine decide_eq_false (fun h => ?_)
      obtain ⟨j, h1, rfl⟩ := zn_of (by omega) h.1 h.2
      rw [zo_kin_i (by omega)] at hk
      cases hk
theorem zo_in {n : Nat} (hn : n < 2 ^ 31) {k : Int32} : decide (nI 0 ≤ k ∧ k ≤ nI n) = zo_kin (n + 1) k := by
  have := zo_kin_in (e := n + 1) (k := k) 
  cases hk : zo_kin (n + 1) k with
  | true =>
    obtain ⟨j, h1, rfl⟩ := zo_kin_t hk
    exact decide_eq_true (zn_b5 (by omega) (by omega))
  | false =>
    refine decide_eq_false (fun h => ?_)
    obtain ⟨j, h1, rfl⟩ := zn_of hn h.1 h.2
    rw [zo_kin_i (by omega)] at hk
    cases hk
def zo_learn (Q : zq_Q) (u : Nat) (f : Nat → Nat) (n : Nat) : zq_Q := fun c j => if c = 1 ∧ 6 * u ≤ j ∧ j < 6 * u + n then Q 1 j ||| f (j - 6 * u) else Q c j
def zo_dq (S : Nat → Nat → Nat) (k v : Nat) : zq_Q := zo_learn (zw_get S v) (S 17 k) (fun q => S 19 (6 * k + q)) 6
def zo_deliver (S : Nat → Nat → Nat) (k x : Int32) : Int32 × (Nat → Nat → Nat) :=
  if zo_kin (S 16 0) k = true ∧ zo_good (S 0 0) x = true ∧ S 17 k.toNatClampNeg ≠ x.toNatClampNeg ∧ S 18 k.toNatClampNeg = S 7 x.toNatClampNeg then (nI 1, zo_stir S x.toNatClampNeg (zo_dq S k.toNatClampNeg x.toNatClampNeg)) else (nI 0, S)
def zo_mail (S : Nat → Nat → Nat) (v s : Nat) (f : Nat → Nat) : Nat → Nat → Nat := fun k i =>
  if k = 19 ∧ 6 * S 16 0 ≤ i ∧ i < 6 * S 16 0 + 6 then f (i - 6 * S 16 0) else if k = 17 ∧ i = S 16 0 then v else if k = 18 ∧ i = S 16 0 then s else if k = 16 ∧ i = 0 then S 16 0 + 1 else if k = 1 ∧ i = 0 then 1 else S k i
def zo_pf (S : Nat → Nat → Nat) (v s j : Nat) : Nat := if j % 2 = 0 then S 12 (27 * v + 9 * s + 3 * (j / 2)) ||| S 12 (27 * v + 9 * s + 3 * (j / 2) + 1) else S 12 (27 * v + 9 * s + 3 * (j / 2) + 1)
def zo_post (S : Nat → Nat → Nat) (x y : Int32) : Int32 × (Nat → Nat → Nat) :=
  if zo_good (S 0 0) x = true ∧ zo_kin 3 y = true ∧ y.toNatClampNeg ≤ S 7 x.toNatClampNeg ∧ S 16 0 ≠ 120 then (nI (S 16 0), zo_mail S x.toNatClampNeg y.toNatClampNeg (zo_pf S x.toNatClampNeg y.toNatClampNeg)) else (-1, S)
def zo_ff (a b c j : Nat) : Nat := if j < 2 then a &&& 254 else if j < 4 then b &&& 268435455 else c &&& 268435455
def zo_forge (S : Nat → Nat → Nat) (x y a b c : Int32) : Int32 × (Nat → Nat → Nat) :=
  if zo_kin 5 x = true ∧ zo_good (S 0 0) x = false ∧ zo_kin 3 y = true ∧ S 16 0 ≠ 120 then (nI (S 16 0), zo_mail S x.toNatClampNeg y.toNatClampNeg (zo_ff a.toBitVec.toNat b.toBitVec.toNat c.toBitVec.toNat)) else (-1, S)
theorem zn_un (x : Int32) : x = nI x.toBitVec.toNat := by
  apply zn_inj
  rw [zn_bv]
  exact (BitVec.ofNat_toNat 32 x.toBitVec ▸ rfl)
section RP
variable {S : Nat → Nat → Nat} {d : za_h} {m T : Nat}
theorem zq_learn_B {Q : zq_Q} (hB : zq_B Q) {u n : Nat} {f : Nat → Nat} (hf : ∀ q, q < 6 → f q < 2 ^ 28) (hn : n ≤ 6) : zq_B (zo_learn Q u f n) := by
  refine ⟨fun j hj => ?_, fun j hj => ?_, ?_, ?_, ?_⟩
  · unfold zo_learn; rw [if_neg (by omega)]; exact hB.1 j hj
  · unfold zo_learn
    split
    · exact Nat.or_lt_two_pow (hB.2.1 j hj) (hf _ (by omega))
    · exact hB.2.1 j hj
  · unfold zo_learn; rw [if_neg (by omega)]; exact hB.2.2.1
  · unfold zo_learn; rw [if_neg (by omega)]; exact hB.2.2.2.1
  · unfold zo_learn; rw [if_neg (by omega)]; exact hB.2.2.2.2
theorem zs_deliver51 (hI : zi T S) {v k : Nat} (hv : v < 5) (hs : S 7 v < 3) (hk : k < S 16 0) : ∀ (r q f : Nat), q + r = 6 → r < f →
    zf_Mo_deliver_51 f m (nI k) (nI v) (nI q) (zr d m (zw S v (zo_learn (zw_get S v) (S 17 k) (fun q => S 19 (6 * k + q)) q))) = some (nI 1, zr d m (zo_stir S v (zo_dq S k v))) := by
  have hC := zi_c hI hv hs
  have hB := zi_B hI hv hs
  have he := hI.2.2.1
  have h17 := (hI.2.2.2.2.2.2.2.2.1 k hk).1
  have h19 := hI.2.2.2.2.2.2.2.2.2.1
  intro r
  induction r with
  | zero =>
    intro q f hq hf
    obtain ⟨f, rfl⟩ : ∃ g, f = g + 1 := ⟨f - 1, by omega⟩
    obtain rfl : q = 6 := by omega
    rw [zf_Mo_deliver_51, if_pos (Int32.le_refl _)]
    simp only [zr_gc, Option.bind_some, zs_stir hC (zq_learn_B (u := S 17 k) (n := 6) (f := fun q => S 19 (6 * k + q)) hB (fun q hq => h19 _ (by omega)) (by decide))]
    rfl
  | succ r ih =>
    intro q f hq hf
    obtain ⟨f, rfl⟩ : ∃ g, f = g + 1 := ⟨f - 1, by omega⟩
    have hj : 6 * S 17 k + q < 30 := by omega
    have r17 : ∀ Q, zw S v Q 17 k = S 17 k := fun Q => by rw [zw_row (by omega)]
    have r19 : ∀ Q i, zw S v Q 19 i = S 19 i := fun Q i => by rw [zw_row (by omega)]
    rw [zf_Mo_deliver_51, if_neg (nI_ge (by omega) (by decide))]
    simp only [zr_g17, zr_g13, zr_g19, Option.bind_some, zr_l17 (show k < 120 by omega), r17, pk_mul, nI_add, Nat.add_assoc, zr_l13 (show 30 * v + (6 * S 17 k + q) < 150 by omega), zw_13 hj, zr_l19 (show 6 * k + q < 720 by omega), r19, zn_or, zr_s13 (show 30 * v + (6 * S 17 k + q) < 150 by omega), zw_u13 hj]
    rw [← ih (q + 1) f (by omega) (by omega)]
    congr 3
    funext c j
    unfold u2 zo_learn
    by_cases h1 : c = 1 ∧ j = 6 * S 17 k + q
    · rw [if_pos h1, if_neg (show ¬ (1 = 1 ∧ 6 * S 17 k ≤ 6 * S 17 k + q ∧ 6 * S 17 k + q < 6 * S 17 k + q) by omega), if_pos (by omega), h1.2, show 6 * S 17 k + q - 6 * S 17 k = q by omega]
    · rw [if_neg h1]
      by_cases h2 : c = 1 ∧ 6 * S 17 k ≤ j ∧ j < 6 * S 17 k + q
      · rw [if_pos h2, if_pos (by omega)]
      · rw [if_neg h2, if_neg (by omega)]
theorem zs_deliver (hI : zi T S) (k x : Int32) : zf_Mo_deliver m k x (zr d m S) = some ((zo_deliver S k x).1, zr d m (zo_deliver S k x).2) := by
  have he := hI.2.2.1
  unfold zf_Mo_deliver zf_Mo_deliver_47 zo_deliver
  simp only [zr_i16, zs_in, Option.bind_some, zr_gc, zo_kin_in (show S 16 0 < 2 ^ 31 by omega)]
  cases hk : zo_kin (S 16 0) k
  · rw [if_pos (by decide), if_neg (by simp)]
  · obtain ⟨j, hj, rfl⟩ := zo_kin_t hk
    rw [if_neg (by decide), nI_clamp (show j < 2 ^ 31 by omega), zs_good hI.1]
    simp only [Option.bind_some]
    cases hg : zo_good (S 0 0) x
    · rw [if_pos (by decide), if_neg (by simp)]
    · obtain ⟨v, hv, rfl, hfv⟩ := zo_good_t hg
      obtain ⟨n1, n2, n3, n4, n5⟩ := hI.2.2.2.2.2.2.2.1 v hv
      obtain ⟨s1, s2⟩ := hI.2.2.2.2.2.2.2.2.1 j hj
      rw [if_neg (by decide), nI_clamp (show v < 2 ^ 31 by omega)]
      simp only [zr_g17, zr_g18, zr_g7, Option.bind_some, zr_l17 (show j < 120 by omega), zr_l18 (show j < 120 by omega), zr_l7 hv, nI_eq (show S 17 j < 2 ^ 31 by omega) (show v < 2 ^ 31 by omega), nI_eq (show S 18 j < 2 ^ 31 by omega) (show S 7 v < 2 ^ 31 by omega)]
      by_cases h1 : S 17 j = v
      · rw [if_pos h1, if_neg (by omega)]
      · rw [if_neg h1]
        by_cases h2 : S 18 j = S 7 v
        · rw [if_pos h2, if_pos ⟨trivial, trivial, h1, h2⟩]
          have e0 : zr d m S = zr d m (zw S v (zo_learn (zw_get S v) (S 17 j) (fun q => S 19 (6 * j + q)) 0)) := by
            have : zo_learn (zw_get S v) (S 17 j) (fun q => S 19 (6 * j + q)) 0 = zw_get S v := by
              funext c i; unfold zo_learn; rw [if_neg (by omega)]
            rw [this, zw_id]
          rw [e0]
          exact zs_deliver51 hI hv (by omega) hj 6 0 7 (by decide) (by decide)
        · rw [if_neg h2, if_neg (by omega)]
theorem zs_sealed {M : Nat → Nat → Nat} {v s e : Nat} (he : M 16 0 = e) (h120 : e < 120) : zf_Mo_sealed m (nI v) (nI s) (zr d m M) = some (nI e, zr d m (u2 (u2 (u2 M 17 e v) 18 e s) 16 0 (e + 1))) := by
  unfold zf_Mo_sealed
  simp only [zr_g17, zr_g18, zr_i16, Option.bind_some, he, zr_s17 h120, zr_s18 h120, u2_k (show (16 : Nat) ≠ 17 by decide), u2_k (show (16 : Nat) ≠ 18 by decide), nI_add, zr_p16, u2_s]
  rw [pk_sub (by omega)]
  rfl
/-- the mail's new envelope, n of its six sets written -/
def zo_mn (S : Nat → Nat → Nat) (f : Nat → Nat) (n : Nat) : Nat → Nat → Nat := fun k i => if k = 19 ∧ 6 * S 16 0 ≤ i ∧ i < 6 * S 16 0 + n then f (i - 6 * S 16 0) else if k = 1 ∧ i = 0 then 1 else S k i
theorem zo_mn_e {f : Nat → Nat} {v s : Nat} : u2 (u2 (u2 (zo_mn S f 6) 17 (S 16 0) v) 18 (S 16 0) s) 16 0 (S 16 0 + 1) = zo_mail S v s f := by
  funext k i
  unfold u2 zo_mn zo_mail
  by_cases c1 : k = 19 ∧ 6 * S 16 0 ≤ i ∧ i < 6 * S 16 0 + 6
  · rw [if_neg (show ¬ (k = 16 ∧ i = 0) by omega), if_neg (show ¬ (k = 18 ∧ i = S 16 0) by omega), if_neg (show ¬ (k = 17 ∧ i = S 16 0) by omega), if_pos c1, if_pos c1]
  · rw [if_neg c1, if_neg c1]
    by_cases c2 : k = 17 ∧ i = S 16 0
    · rw [if_neg (show ¬ (k = 16 ∧ i = 0) by omega), if_neg (show ¬ (k = 18 ∧ i = S 16 0) by omega), if_pos c2, if_pos c2]
    · rw [if_neg c2, if_neg c2]
      by_cases c3 : k = 18 ∧ i = S 16 0
      · rw [if_neg (show ¬ (k = 16 ∧ i = 0) by omega), if_pos c3, if_pos c3]
      · rw [if_neg c3, if_neg c3]
theorem zo_mn_r {f : Nat → Nat} {n k i : Nat} (h : k ≠ 19) (h1 : k ≠ 1) : zo_mn S f n k i = S k i := by
  unfold zo_mn; rw [if_neg (by omega), if_neg (by omega)]
theorem zo_mn_s {f : Nat → Nat} {n : Nat} : u2 (zo_mn S f n) 19 (6 * S 16 0 + n) (f n) = zo_mn S f (n + 1) := by
  funext k i
  unfold u2 zo_mn
  by_cases c1 : k = 19 ∧ i = 6 * S 16 0 + n
  · rw [if_pos c1, if_pos (by omega), c1.2, show 6 * S 16 0 + n - 6 * S 16 0 = n by omega]
  · rw [if_neg c1]
    by_cases c2 : k = 19 ∧ 6 * S 16 0 ≤ i ∧ i < 6 * S 16 0 + n
    · rw [if_pos c2, if_pos (by omega)]
    · rw [if_neg c2, if_neg (show ¬ (k = 19 ∧ 6 * S 16 0 ≤ i ∧ i < 6 * S 16 0 + (n + 1)) by omega)]
theorem zo_mn_0 {f : Nat → Nat} : u2 S 1 0 1 = zo_mn S f 0 := by
  funext k i
  unfold u2 zo_mn
  rw [if_neg (show ¬ (k = 19 ∧ 6 * S 16 0 ≤ i ∧ i < 6 * S 16 0 + 0) by omega)]
theorem zs_post (hI : zi T S) (x y : Int32) : zf_Mo_post m x y (zr d m S) = some ((zo_post S x y).1, zr d m (zo_post S x y).2) := by
  have he := hI.2.2.1
  unfold zf_Mo_post zf_Mo_post_36 zo_post
  simp only [zr_gc, Option.bind_some, zs_good hI.1]
  cases hg : zo_good (S 0 0) x
  · rw [if_pos (by decide), if_neg (by simp)]
  · obtain ⟨v, hv, rfl, hfv⟩ := zo_good_t hg
    obtain ⟨n1, -⟩ := hI.2.2.2.2.2.2.2.1 v hv
    rw [if_neg (by decide), nI_clamp (show v < 2 ^ 31 by omega)]
    simp only [zs_in, Option.bind_some, zo_in (show 2 < 2 ^ 31 by decide)]
    cases hy : zo_kin (2 + 1) y
    · rw [if_pos (by decide), if_neg (by simp [hy])]
    · obtain ⟨s, hs, rfl⟩ := zo_kin_t hy
      rw [if_neg (by decide), nI_clamp (show s < 2 ^ 31 by omega)]
      simp only [zr_g7, Option.bind_some, zr_l7 hv, zr_i16, nI_ltI (show S 7 v < 2 ^ 31 by omega) (show s < 2 ^ 31 by omega), nI_eq (show S 16 0 < 2 ^ 31 by omega) (show 120 < 2 ^ 31 by decide)]
      by_cases h1 : S 7 v < s
      · rw [if_pos h1, if_neg (by omega)]
      · rw [if_neg h1]
        by_cases h2 : S 16 0 = 120
        · rw [if_pos h2, if_neg (by omega)]
        · rw [if_neg h2, if_pos ⟨trivial, trivial, by omega, h2⟩]
          simp only [zr_p1, Option.bind_some]
          have hl : ∀ (r q f : Nat), q + r = 3 → r < f → zf_Mo_post_45 f m (nI v) (nI s) (nI q) (zr d m (zo_mn S (zo_pf S v s) (2 * q))) = some (nI (S 16 0), zr d m (zo_mail S v s (zo_pf S v s))) := by
            intro r
            induction r with
            | zero =>
              intro q f hq hf
              obtain ⟨f, rfl⟩ : ∃ g, f = g + 1 := ⟨f - 1, by omega⟩
              obtain rfl : q = 3 := by omega
              rw [zf_Mo_post_45, if_pos (Int32.le_refl _)]
              simp only [zr_gc, Option.bind_some]
              rw [zs_sealed (e := S 16 0) (zo_mn_r (by decide) (by decide)) (by omega)]
              simp only [Option.bind_some]
              rw [show (2 * 3 : Nat) = 6 from rfl, zo_mn_e]
            | succ r ih =>
              intro q f hq hf
              obtain ⟨f, rfl⟩ : ∃ g, f = g + 1 := ⟨f - 1, by omega⟩
              have r12 : ∀ n i, zo_mn S (zo_pf S v s) n 12 i = S 12 i := fun n i => zo_mn_r (by decide) (by decide)
              have r16 : ∀ n, zo_mn S (zo_pf S v s) n 16 0 = S 16 0 := fun n => zo_mn_r (by decide) (by decide)
              have p0 : zo_pf S v s (2 * q) = S 12 (27 * v + 9 * s + 3 * q) ||| S 12 (27 * v + 9 * s + 3 * q + 1) := by
                unfold zo_pf; rw [if_pos (by omega), show 2 * q / 2 = q by omega]
              have p1 : zo_pf S v s (2 * q + 1) = S 12 (27 * v + 9 * s + 3 * q + 1) := by
                unfold zo_pf; rw [if_neg (by omega), show (2 * q + 1) / 2 = q by omega]
              rw [zf_Mo_post_45, if_neg (nI_ge (by omega) (by decide))]
              simp only [zr_g19, zr_g12, zr_i16, Option.bind_some, pk_mul, nI_add, zr_l12 (show 27 * v + 9 * s + 3 * q < 135 by omega), zr_l12 (show 27 * v + 9 * s + 3 * q + 1 < 135 by omega), r12, r16, zn_or]
              rw [← p0, zr_s19 (by omega), zo_mn_s]
              simp only [zr_g19, zr_g12, zr_i16, Option.bind_some, zr_l12 (show 27 * v + 9 * s + 3 * q + 1 < 135 by omega), r12, r16, pk_mul, nI_add]
              rw [← p1, show 6 * S 16 0 + 2 * q + 1 = 6 * S 16 0 + (2 * q + 1) by omega, zr_s19 (by omega), zo_mn_s]
              exact ih (q + 1) f (by omega) (by omega)
          rw [zo_mn_0 (f := zo_pf S v s)]
          exact hl 3 0 6 (by decide) (by decide)
theorem zs_forge (hI : zi T S) (x y a b c : Int32) : zf_Mo_forge m x y a b c (zr d m S) = some ((zo_forge S x y a b c).1, zr d m (zo_forge S x y a b c).2) := by
  have he := hI.2.2.1
  unfold zf_Mo_forge zf_Mo_forge_35 zo_forge
  simp only [zr_gc, zs_in, Option.bind_some, zs_good hI.1, zo_in (show 4 < 2 ^ 31 by decide), zo_in (show 2 < 2 ^ 31 by decide)]
  cases hx : zo_kin (4 + 1) x
  · rw [if_pos (by decide), if_neg (by simp [hx])]
  · obtain ⟨v, hv, rfl⟩ := zo_kin_t hx
    rw [if_neg (by decide), nI_clamp (show v < 2 ^ 31 by omega)]
    cases hg : zo_good (S 0 0) (nI v)
    · rw [if_pos (by decide)]
      cases hy : zo_kin (2 + 1) y
      · rw [if_pos (by decide), if_neg (by simp [hy])]
      · obtain ⟨s, hs, rfl⟩ := zo_kin_t hy
        rw [if_neg (by decide), nI_clamp (show s < 2 ^ 31 by omega)]
        simp only [zr_i16, Option.bind_some, nI_eq (show S 16 0 < 2 ^ 31 by omega) (show 120 < 2 ^ 31 by decide)]
        by_cases h2 : S 16 0 = 120
        · rw [if_pos h2, if_neg (by omega)]
        · rw [if_neg h2, if_pos ⟨trivial, trivial, trivial, h2⟩]
          simp only [zr_p1, Option.bind_some]
          generalize ha : a.toBitVec.toNat = na
          generalize hb : b.toBitVec.toNat = nb
          generalize hc : c.toBitVec.toNat = nc
          rw [show a = nI na by rw [← ha]; exact zn_un a, show b = nI nb by rw [← hb]; exact zn_un b, show c = nI nc by rw [← hc]; exact zn_un c]
          have r16 : ∀ k i x, k ≠ 16 → u2 (u2 S 1 0 1) k i x 16 0 = S 16 0 := fun k i x hk => by rw [u2_k (Ne.symm hk), u2_k (by decide)]
          have e6 : u2 (u2 (u2 (u2 (u2 (u2 (u2 S 1 0 1) 19 (6 * S 16 0 + 0) (na &&& 254)) 19 (6 * S 16 0 + 2 + 0) (nb &&& 268435455)) 19 (6 * S 16 0 + 4 + 0) (nc &&& 268435455)) 19 (6 * S 16 0 + 1) (na &&& 254)) 19 (6 * S 16 0 + 2 + 1) (nb &&& 268435455)) 19 (6 * S 16 0 + 4 + 1) (nc &&& 268435455) = zo_mn S (zo_ff na nb nc) 6 := by
            funext k i
            by_cases hk : k = 19
            · subst hk
              by_cases hr : 6 * S 16 0 ≤ i ∧ i < 6 * S 16 0 + 6
              · unfold zo_mn
                rw [if_pos ⟨rfl, hr⟩]
                rcases (show i = 6 * S 16 0 ∨ i = 6 * S 16 0 + 1 ∨ i = 6 * S 16 0 + 2 ∨ i = 6 * S 16 0 + 3 ∨ i = 6 * S 16 0 + 4 ∨ i = 6 * S 16 0 + 5 by omega) with e | e | e | e | e | e
                · rw [u2_i (by omega), u2_i (by omega), u2_i (by omega), u2_i (by omega), u2_i (by omega), e, Nat.add_zero, u2_s, Nat.sub_self]; rfl
                · rw [u2_i (by omega), u2_i (by omega), e, u2_s, show 6 * S 16 0 + 1 - 6 * S 16 0 = 1 by omega]; rfl
                · rw [u2_i (by omega), u2_i (by omega), u2_i (by omega), u2_i (by omega), e, Nat.add_zero, u2_s, show 6 * S 16 0 + 2 - 6 * S 16 0 = 2 by omega]; rfl
                · rw [u2_i (by omega), e, show 6 * S 16 0 + 2 + 1 = 6 * S 16 0 + 3 by omega, u2_s, show 6 * S 16 0 + 3 - 6 * S 16 0 = 3 by omega]; rfl
                · rw [u2_i (by omega), u2_i (by omega), u2_i (by omega), e, Nat.add_zero, u2_s, show 6 * S 16 0 + 4 - 6 * S 16 0 = 4 by omega]; rfl
                · rw [e, show 6 * S 16 0 + 4 + 1 = 6 * S 16 0 + 5 by omega, u2_s, show 6 * S 16 0 + 5 - 6 * S 16 0 = 5 by omega]; rfl
              · unfold zo_mn
                rw [u2_i (by omega), u2_i (by omega), u2_i (by omega), u2_i (by omega), u2_i (by omega), u2_i (by omega), if_neg (by omega)]
                rfl
            · unfold zo_mn
              rw [u2_k hk, u2_k hk, u2_k hk, u2_k hk, u2_k hk, u2_k hk, if_neg (by omega)]
              rfl
          have fin : zf_Mo_forge_45 4 m (nI v) (nI s) (nI na) (nI nb) (nI nc) (nI (0 + 1 + 1)) (zr d m (zo_mn S (zo_ff na nb nc) 6)) = some (nI (S 16 0), zr d m (zo_mail S v s (zo_ff na nb nc))) := by
            rw [zf_Mo_forge_45, if_pos (Int32.le_refl _)]
            simp only [zr_gc, Option.bind_some]
            rw [zs_sealed (e := S 16 0) (zo_mn_r (by decide) (by decide)) (by omega)]
            simp only [Option.bind_some]
            rw [zo_mn_e]
          rw [zf_Mo_forge_45, if_neg (by decide)]
          simp only [zr_g19, zr_i16, Option.bind_some, u2_k (show (16 : Nat) ≠ 1 by decide), u2_k (show (16 : Nat) ≠ 19 by decide), pk_mul, nI_add, zn_and, zr_s19 (show 6 * S 16 0 + 0 < 720 by omega), zr_s19 (show 6 * S 16 0 + 2 + 0 < 720 by omega), zr_s19 (show 6 * S 16 0 + 4 + 0 < 720 by omega)]
          rw [zf_Mo_forge_45, if_neg (by decide)]
          simp only [zr_g19, zr_i16, Option.bind_some, u2_k (show (16 : Nat) ≠ 1 by decide), u2_k (show (16 : Nat) ≠ 19 by decide), pk_mul, nI_add, zn_and, Nat.zero_add, zr_s19 (show 6 * S 16 0 + 1 < 720 by omega), zr_s19 (show 6 * S 16 0 + 2 + 1 < 720 by omega), zr_s19 (show 6 * S 16 0 + 4 + 1 < 720 by omega)]
          rw [e6]
          exact fin
    · rw [if_neg (by decide), if_neg (by simp)]
end RP
