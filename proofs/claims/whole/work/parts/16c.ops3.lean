/-! The reference: trust, submit, and the calls that only read. -/
def zo_r (a b : Nat) (x : Int32) : Bool := decide (nI a ≤ x ∧ x ≤ nI b)
theorem zo_r_t {a b : Nat} (hb : b < 2 ^ 31) {x : Int32} (h : zo_r a b x = true) (ha : a ≤ b) : ∃ j, a ≤ j ∧ j ≤ b ∧ x = nI j := by
  have h1 := of_decide_eq_true h
  obtain ⟨j, h2, rfl⟩ := zn_of hb (Int32.le_trans (nI_le (Nat.zero_le a) (by omega)) h1.1) h1.2
  exact ⟨j, (nI_leI (by omega) (by omega)).mp h1.1, h2, rfl⟩
def zo_trust (S : Nat → Nat → Nat) (x t me inn gr : Int32) : Int32 × (Nat → Nat → Nat) :=
  if (zo_kin 5 x && zo_r 1 6 t && zo_kin 32 me && zo_kin 32 gr && zo_kin 6 inn && S 1 0 == 0) = true then (nI 1, zs_tab (u2 (u2 (u2 (u2 S 2 x.toNatClampNeg t.toNatClampNeg) 3 x.toNatClampNeg me.toNatClampNeg) 4 x.toNatClampNeg inn.toNatClampNeg) 5 x.toNatClampNeg gr.toNatClampNeg) 32) else (nI 0, S)
def zo_open (S : Nat → Nat → Nat) (s : Nat) : Bool := (List.range 5).all fun v => (S 0 0).testBit v || decide (S 7 v ≤ s)
def zo_fits (kd ot : Int32) : Bool := if kd = nI 0 then zo_kin 4 ot else zo_r 1 9 ot
def zo_place (s j : Int32) : Nat := 3 * s.toNatClampNeg + j.toNatClampNeg
def zo_submit (S : Nat → Nat → Nat) (s j kd fr wh ot am : Int32) : Int32 × (Nat → Nat → Nat) :=
  if (zo_kin 3 s && zo_kin 3 j && zo_kin 2 kd && zo_kin 4 fr && zo_kin 2 wh && zo_r 1 1000 am && zo_fits kd ot && zo_open S s.toNatClampNeg && S 20 (zo_place s j) == 0) = true then
    (nI 1, u2 (u2 (u2 (u2 (u2 (u2 S 20 (zo_place s j) 1) 21 (zo_place s j) kd.toNatClampNeg) 22 (zo_place s j) fr.toNatClampNeg) 23 (zo_place s j) wh.toNatClampNeg) 24 (zo_place s j) ot.toNatClampNeg) 25 (zo_place s j) am.toNatClampNeg) else (nI 0, S)
def zo_state (S : Nat → Nat → Nat) (x y : Int32) : Int32 :=
  if zo_good (S 0 0) x = true ∧ zo_kin 6 y = true then (if y = nI 0 then nI (S 7 x.toNatClampNeg) else if S 7 x.toNatClampNeg = 3 then nI 0 else if y = nI 1 then nI (S 8 x.toNatClampNeg) else if y = nI 2 then nI (S 9 x.toNatClampNeg) else if y = nI 3 then nI (S 10 x.toNatClampNeg) else if y = nI 4 then nI (zq_comp (zw_get S x.toNatClampNeg)) else nI (S 11 x.toNatClampNeg)) else -1
def zo_statements (S : Nat → Nat → Nat) (x s k h : Int32) : Int32 :=
  if zo_good (S 0 0) x = true ∧ zo_kin 3 s = true ∧ zo_kin 3 k = true ∧ zo_kin 3 h = true then nI (S 12 (27 * x.toNatClampNeg + 9 * s.toNatClampNeg + 3 * k.toNatClampNeg + h.toNatClampNeg)) else -1
def zo_value (S : Nat → Nat → Nat) (x s : Int32) : Int32 := if zo_good (S 0 0) x = true ∧ zo_kin 3 s = true then nI (S 14 (3 * x.toNatClampNeg + s.toNatClampNeg)) else -1
def zo_header (S : Nat → Nat → Nat) (x : Int32) : Int32 := if zo_good (S 0 0) x = true then nI (S 15 x.toNatClampNeg) else nI 0
def zo_balance (S : Nat → Nat → Nat) (x a s : Int32) : Int32 := if zo_good (S 0 0) x = true ∧ zo_kin 4 a = true ∧ zo_kin 2 s = true then nI (S 26 (8 * x.toNatClampNeg + 2 * a.toNatClampNeg + s.toNatClampNeg)) else -1
def zo_offer (S : Nat → Nat → Nat) (x k : Int32) : Int32 :=
  if zo_good (S 0 0) x = true ∧ zo_kin (S 27 x.toNatClampNeg) k = true then nI (S 28 (9 * x.toNatClampNeg + k.toNatClampNeg) + 4 * S 29 (9 * x.toNatClampNeg + k.toNatClampNeg) + 16 * S 30 (9 * x.toNatClampNeg + k.toNatClampNeg) + 256 * S 31 (9 * x.toNatClampNeg + k.toNatClampNeg)) else -1
section RQ
variable {S : Nat → Nat → Nat} {d : za_h} {m T : Nat}
theorem zs_trust (hI : zi T S) (x t me inn gr : Int32) : zf_Mo_trust m x t me inn gr (zr d m S) = some ((zo_trust S x t me inn gr).1, zr d m (zo_trust S x t me inn gr).2) := by
  unfold zf_Mo_trust zf_Mo_trust_57 zo_trust
  have e6 : decide (nI 1 ≤ t ∧ t ≤ nI 6) = zo_r 1 6 t := rfl
  simp only [zs_in, Option.bind_some, zo_in (show 4 < 2 ^ 31 by decide), zo_in (show 31 < 2 ^ 31 by decide), zo_in (show 5 < 2 ^ 31 by decide), e6, Nat.reduceAdd]
  cases h1 : zo_kin 5 x
  · rw [if_pos (by decide)]; simp
  · rw [if_neg (by decide)]
    cases h2 : zo_r 1 6 t
    · rw [if_pos (by decide)]; simp
    · rw [if_neg (by decide)]
      cases h3 : zo_kin 32 me
      · rw [if_pos (by decide)]; simp
      · rw [if_neg (by decide)]
        cases h4 : zo_kin 32 gr
        · rw [if_pos (by decide)]; simp
        · rw [if_neg (by decide)]
          cases h5 : zo_kin 6 inn
          · rw [if_pos (by decide)]; simp
          · rw [if_neg (by decide)]
            have hb := hI.2.1
            simp only [zr_i1, Option.bind_some, zn_eq0 (show S 1 0 < 2 ^ 31 by omega)]
            by_cases h6 : S 1 0 = 0
            · rw [if_pos h6]
              obtain ⟨v, hv, rfl⟩ := zo_kin_t h1
              obtain ⟨t, ht1, ht2, rfl⟩ := zo_r_t (by decide) h2 (by decide)
              obtain ⟨me, hme, rfl⟩ := zo_kin_t h3
              obtain ⟨gr, hgr, rfl⟩ := zo_kin_t h4
              obtain ⟨inn, hin, rfl⟩ := zo_kin_t h5
              have c := fun (n : Nat) (h : n < 2 ^ 31) => nI_clamp (n := n) h
              rw [c v (by omega), c t (by omega), c me (by omega), c gr (by omega), c inn (by omega), if_pos (by simp [h6])]
              simp only [zr_g2, zr_g3, zr_g4, zr_g5, zr_gc, Option.bind_some, zr_s2 hv, zr_s3 hv, zr_s4 hv, zr_s5 hv]
              rw [zs_table]
              · rfl
              · intro w hw
                have hT := hI.2.2.2.1 w hw
                by_cases hwv : w = v
                · subst hwv
                  simp only [u2_s, u2_k (show (2 : Nat) ≠ 5 by decide), u2_k (show (2 : Nat) ≠ 4 by decide), u2_k (show (2 : Nat) ≠ 3 by decide), u2_k (show (3 : Nat) ≠ 5 by decide), u2_k (show (3 : Nat) ≠ 4 by decide), u2_k (show (4 : Nat) ≠ 5 by decide)]
                  omega
                · simp only [u2_i hwv]
                  exact hT
            · rw [if_neg h6]; simp [h6]
theorem zs_submit (hI : zi T S) (s j kd fr wh ot am : Int32) : zf_Mo_submit m s j kd fr wh ot am (zr d m S) = some ((zo_submit S s j kd fr wh ot am).1, zr d m (zo_submit S s j kd fr wh ot am).2) := by
  unfold zf_Mo_submit zf_Mo_submit_59 zo_submit
  have e6 : decide (nI 1 ≤ am ∧ am ≤ nI 1000) = zo_r 1 1000 am := rfl
  have e9 : decide (nI 1 ≤ ot ∧ ot ≤ nI 9) = zo_r 1 9 ot := rfl
  simp only [zs_in, Option.bind_some, zo_in (show 2 < 2 ^ 31 by decide), zo_in (show 1 < 2 ^ 31 by decide), zo_in (show 3 < 2 ^ 31 by decide), e6, e9, Nat.reduceAdd]
  cases h1 : zo_kin 3 s
  · rw [if_pos (by decide)]; simp
  · rw [if_neg (by decide)]
    cases h2 : zo_kin 3 j
    · rw [if_pos (by decide)]; simp
    · rw [if_neg (by decide)]
      cases h3 : zo_kin 2 kd
      · rw [if_pos (by decide)]; simp
      · rw [if_neg (by decide)]
        cases h4 : zo_kin 4 fr
        · rw [if_pos (by decide)]; simp
        · rw [if_neg (by decide)]
          cases h5 : zo_kin 2 wh
          · rw [if_pos (by decide)]; simp
          · rw [if_neg (by decide)]
            cases h6 : zo_r 1 1000 am
            · rw [if_pos (by decide)]; simp
            · rw [if_neg (by decide)]
              obtain ⟨s, hs, rfl⟩ := zo_kin_t h1
              obtain ⟨j, hj, rfl⟩ := zo_kin_t h2
              have cs : (nI s).toNatClampNeg = s := nI_clamp (by omega)
              have cj : (nI j).toNatClampNeg = j := nI_clamp (by omega)
              have hp : zo_place (nI s) (nI j) = 3 * s + j := by unfold zo_place; rw [cs, cj]
              have main : ∀ p : Bool, zf_Mo_submit_83 m (nI s) (nI j) kd fr wh ot am (nI p.toNat) (zr d m S) = some ((if (p && zo_open S s && S 20 (3 * s + j) == 0) = true then (nI 1, u2 (u2 (u2 (u2 (u2 (u2 S 20 (3 * s + j) 1) 21 (3 * s + j) kd.toNatClampNeg) 22 (3 * s + j) fr.toNatClampNeg) 23 (3 * s + j) wh.toNatClampNeg) 24 (3 * s + j) ot.toNatClampNeg) 25 (3 * s + j) am.toNatClampNeg) else (nI 0, S)).1, zr d m (if (p && zo_open S s && S 20 (3 * s + j) == 0) = true then (nI 1, u2 (u2 (u2 (u2 (u2 (u2 S 20 (3 * s + j) 1) 21 (3 * s + j) kd.toNatClampNeg) 22 (3 * s + j) fr.toNatClampNeg) 23 (3 * s + j) wh.toNatClampNeg) 24 (3 * s + j) ot.toNatClampNeg) 25 (3 * s + j) am.toNatClampNeg) else (nI 0, S)).2) → True := fun _ _ => trivial
              clear main
              have loop : ∀ (r u f : Nat) (p : Bool), u + r = 5 → r < f → zf_Mo_submit_88 f m (nI s) (nI j) kd fr wh ot am (nI p.toNat) (nI u) (zr d m S) = zf_Mo_submit_88 1 m (nI s) (nI j) kd fr wh ot am (nI (p && (List.range' u r).all fun v => (S 0 0).testBit v || decide (S 7 v ≤ s)).toNat) (nI 5) (zr d m S) := by
                intro r
                induction r with
                | zero =>
                  intro u f p hu hf
                  obtain ⟨f, rfl⟩ : ∃ g, f = g + 1 := ⟨f - 1, by omega⟩
                  obtain rfl : u = 5 := by omega
                  rw [zf_Mo_submit_88, if_pos (Int32.le_refl _), zf_Mo_submit_88, if_pos (Int32.le_refl _)]
                  simp
                | succ r ih =>
                  intro u f p hu hf
                  obtain ⟨f, rfl⟩ : ∃ g, f = g + 1 := ⟨f - 1, by omega⟩
                  have hu5 : u < 5 := by omega
                  obtain ⟨n1, -⟩ := hI.2.2.2.2.2.2.2.1 u hu5
                  rw [zf_Mo_submit_88, if_neg (nI_ge hu5 (by decide))]
                  unfold zf_Mo_submit_119 zf_Mo_submit_123 zf_Mo_submit_124
                  simp only [zr_gc, Option.bind_some, zs_good hI.1, zr_g7, zr_l7 hu5, nI_add, nI_ltI (show s < 2 ^ 31 by omega) (show S 7 u < 2 ^ 31 by omega)]
                  rw [List.range'_succ, List.all_cons]
                  cases p
                  · rw [if_pos (by decide)]
                    have := ih (u + 1) f false (by omega) (by omega)
                    simp only [zfn, Bool.false_and] at this ⊢
                    exact this
                  · rw [if_neg (by decide)]
                    cases hb : (S 0 0).testBit u
                    · rw [zo_good_i hu5 hb, if_neg (by decide)]
                      by_cases hsu : s < S 7 u
                      · rw [if_pos hsu, decide_eq_false (by omega)]
                        have := ih (u + 1) f false (by omega) (by omega)
                        simp only [zfn, Bool.false_and, Bool.or_false, Bool.and_false] at this ⊢
                        exact this
                      · rw [if_neg hsu, decide_eq_true (by omega)]
                        have := ih (u + 1) f true (by omega) (by omega)
                        simp only [ztn, Bool.true_and, Bool.or_true] at this ⊢
                        exact this
                    · have hng : zo_good (S 0 0) (nI u) = false := by
                        cases hg : zo_good (S 0 0) (nI u) with
                        | false => rfl
                        | true =>
                          obtain ⟨w, q1, q2, q3⟩ := zo_good_t hg
                          rw [← (nI_eq (by omega) (by omega)).mp q2, hb] at q3
                          cases q3
                      rw [hng, if_pos (by decide)]
                      have := ih (u + 1) f true (by omega) (by omega)
                      simp only [ztn, Bool.true_and, Bool.true_or] at this ⊢
                      exact this
              have hset := (hI.2.2.2.2.2.2.2.2.2.2.1 (3 * s + j) (by omega)).1
              have e83 : ∀ p : Bool, (p = true → ∃ kn fn wn on an : Nat, kn < 2 ^ 31 ∧ fn < 2 ^ 31 ∧ wn < 2 ^ 31 ∧ on < 2 ^ 31 ∧ an < 2 ^ 31 ∧ kd = nI kn ∧ fr = nI fn ∧ wh = nI wn ∧ ot = nI on ∧ am = nI an) → zf_Mo_submit_83 m (nI s) (nI j) kd fr wh ot am (nI p.toNat) (zr d m S) = (if (p && zo_open S s && S 20 (3 * s + j) == 0) = true then some (nI 1, zr d m (u2 (u2 (u2 (u2 (u2 (u2 S 20 (3 * s + j) 1) 21 (3 * s + j) kd.toNatClampNeg) 22 (3 * s + j) fr.toNatClampNeg) 23 (3 * s + j) wh.toNatClampNeg) 24 (3 * s + j) ot.toNatClampNeg) 25 (3 * s + j) am.toNatClampNeg)) else some (nI 0, zr d m S)) := by
                intro p hpp
                unfold zf_Mo_submit_83
                rw [loop 5 0 6 p (by decide) (by decide), zf_Mo_submit_88, if_pos (Int32.le_refl _)]
                unfold zf_Mo_submit_154
                have ho : zo_open S s = ((List.range' 0 5).all fun v => (S 0 0).testBit v || decide (S 7 v ≤ s)) := rfl
                rw [← ho]
                simp only [zr_g20, Option.bind_some, pk_mul, nI_add, zr_l20 (show 3 * s + j < 9 by omega), zn_eq0 (show S 20 (3 * s + j) < 2 ^ 31 by omega)]
                cases hq : (p && zo_open S s)
                · rw [if_pos (by decide)]; simp
                · rw [if_neg (by decide)]
                  by_cases hz : S 20 (3 * s + j) = 0
                  · rw [if_pos hz, if_pos (by simp [hz])]
                    obtain ⟨kn, fn, wn, on, an, b1, b2, b3, b4, b5, rfl, rfl, rfl, rfl, rfl⟩ := hpp (by cases p; cases hq; rfl)
                    rw [nI_clamp b1, nI_clamp b2, nI_clamp b3, nI_clamp b4, nI_clamp b5]
                    have h9 : 3 * s + j < 9 := by omega
                    simp only [zn_nar1, zr_s20 h9, zr_g21, zr_s21 h9, zr_g22, zr_s22 h9, zr_g23, zr_s23 h9, zr_g24, zr_s24 h9, zr_g25, zr_s25 h9, Option.bind_some]
                  · rw [if_neg hz, if_neg (by simp [hz])]
              obtain ⟨kn, hkn, rfl⟩ := zo_kin_t h3
              obtain ⟨fn, hfn, rfl⟩ := zo_kin_t h4
              obtain ⟨wn, hwn, rfl⟩ := zo_kin_t h5
              obtain ⟨an, han1, han2, rfl⟩ := zo_r_t (by decide) h6 (by decide)
              have hz0 : (nI kn = 0) = (nI kn = nI 0) := rfl
              simp only [hz0]
              rw [hp, cs]
              unfold zo_fits
              by_cases hk0 : nI kn = nI 0
              · rw [if_pos hk0, if_pos hk0, e83 (zo_kin 4 ot) (fun h => by obtain ⟨o, ho, rfl⟩ := zo_kin_t h; exact ⟨kn, fn, wn, o, an, by omega, by omega, by omega, by omega, by omega, rfl, rfl, rfl, rfl, rfl⟩)]
                simp only [Bool.true_and]
                split <;> rfl
              · rw [if_neg hk0, if_neg hk0, e83 (zo_r 1 9 ot) (fun h => by obtain ⟨o, ho, ho2, rfl⟩ := zo_r_t (by decide) h (by decide); exact ⟨kn, fn, wn, o, an, by omega, by omega, by omega, by omega, by omega, rfl, rfl, rfl, rfl, rfl⟩)]
                simp only [Bool.true_and]
                split <;> rfl
theorem zs_state (hI : zi T S) (x y : Int32) : zf_Mo_state m x y (zr d m S) = some (zo_state S x y, zr d m S) := by
  unfold zf_Mo_state zf_Mo_state_17 zf_Mo_state_33 zf_Mo_state_47 zf_Mo_state_109 zo_state
  simp only [zr_gc, Option.bind_some, zs_good hI.1, zs_in, zo_in (show 5 < 2 ^ 31 by decide), Nat.reduceAdd]
  cases hg : zo_good (S 0 0) x
  · rw [if_pos (by decide), if_neg (by simp)]
  · obtain ⟨v, hv, rfl, -⟩ := zo_good_t hg
    obtain ⟨n1, n2, n3, n4, n5⟩ := hI.2.2.2.2.2.2.2.1 v hv
    rw [if_neg (by decide), nI_clamp (show v < 2 ^ 31 by omega)]
    cases hy : zo_kin 6 y
    · rw [if_pos (by decide), if_neg (by simp)]
    · rw [if_neg (by decide)]
      simp only [and_self, if_true]
      have hz0 : (y = 0) = (y = nI 0) := rfl
      simp only [hz0, zr_g7, zr_g8, zr_g9, zr_g10, zr_g11, Option.bind_some, zr_l7 hv, zr_l8 hv, zr_l9 hv, zr_l10 hv, zr_l11 hv, nI_eq (show S 7 v < 2 ^ 31 by omega) (show 3 < 2 ^ 31 by decide)]
      by_cases h0 : y = nI 0
      · rw [if_pos h0, if_pos h0, if_pos h0]
      · rw [if_neg h0, if_neg h0]
        by_cases h3 : S 7 v = 3
        · rw [if_pos h3, if_neg h0, if_pos h3]
        · rw [if_neg h3]
          simp only [if_neg h0, if_neg h3]
          have hcm := zs_comp (m := m) (d := d) (zi_c hI hv (by omega)).1 (zi_B hI hv (by omega))
          rw [zw_id] at hcm
          rw [hcm]
          simp only [Option.bind_some]
          by_cases h1 : y = nI 1
          · rw [if_pos h1, if_pos h1]
          · rw [if_neg h1, if_neg h1]
            by_cases h2 : y = nI 2
            · rw [if_pos h2, if_pos h2]
            · rw [if_neg h2, if_neg h2]
              by_cases h3 : y = nI 3
              · rw [if_pos h3, if_pos h3]
              · rw [if_neg h3, if_neg h3]
                by_cases h4 : y = nI 4
                · rw [if_pos h4, if_pos h4]
                · rw [if_neg h4, if_neg h4]
theorem zs_statements (hI : zi T S) (x s k h : Int32) : zf_Mo_statements m x s k h (zr d m S) = some (zo_statements S x s k h, zr d m S) := by
  unfold zf_Mo_statements zf_Mo_statements_36 zo_statements
  simp only [zr_gc, Option.bind_some, zs_good hI.1, zs_in, zo_in (show 2 < 2 ^ 31 by decide), Nat.reduceAdd]
  cases hg : zo_good (S 0 0) x
  · rw [if_pos (by decide), if_neg (by simp)]
  · rw [if_neg (by decide)]
    cases h1 : zo_kin 3 s
    · rw [if_pos (by decide), if_neg (by simp)]
    · rw [if_neg (by decide)]
      cases h2 : zo_kin 3 k
      · rw [if_pos (by decide), if_neg (by simp)]
      · rw [if_neg (by decide)]
        cases h3 : zo_kin 3 h
        · rw [if_pos (by decide), if_neg (by simp)]
        · rw [if_neg (by decide)]
          simp only [and_self, if_true]
          obtain ⟨v, hv, rfl, -⟩ := zo_good_t hg
          obtain ⟨s, hs, rfl⟩ := zo_kin_t h1
          obtain ⟨k, hk, rfl⟩ := zo_kin_t h2
          obtain ⟨h, hh, rfl⟩ := zo_kin_t h3
          rw [nI_clamp (show v < 2 ^ 31 by omega), nI_clamp (show s < 2 ^ 31 by omega), nI_clamp (show k < 2 ^ 31 by omega), nI_clamp (show h < 2 ^ 31 by omega)]
          simp only [zr_g12, Option.bind_some, pk_mul, nI_add, zr_l12 (show 27 * v + 9 * s + 3 * k + h < 135 by omega)]
theorem zs_value (hI : zi T S) (x s : Int32) : zf_Mo_value m x s (zr d m S) = some (zo_value S x s, zr d m S) := by
  unfold zf_Mo_value zf_Mo_value_30 zf_Mo_value_31 zo_value
  simp only [zr_gc, Option.bind_some, zs_good hI.1, zs_in, zo_in (show 2 < 2 ^ 31 by decide), Nat.reduceAdd]
  cases hg : zo_good (S 0 0) x
  · rw [if_pos (by decide), if_neg (by simp)]
  · rw [if_neg (by decide)]
    cases h1 : zo_kin 3 s
    · rw [if_pos (by decide), if_neg (by simp)]
    · rw [if_neg (by decide)]
      simp only [and_self, if_true]
      obtain ⟨v, hv, rfl, -⟩ := zo_good_t hg
      obtain ⟨s, hs, rfl⟩ := zo_kin_t h1
      rw [nI_clamp (show v < 2 ^ 31 by omega), nI_clamp (show s < 2 ^ 31 by omega)]
      simp only [zr_g14, Option.bind_some, pk_mul, nI_add, zr_l14 (show 3 * v + s < 15 by omega)]
theorem zs_header (hI : zi T S) (x : Int32) : zf_Mo_header m x (zr d m S) = some (zo_header S x, zr d m S) := by
  unfold zf_Mo_header zf_Mo_header_18 zo_header
  simp only [zr_gc, Option.bind_some, zs_good hI.1]
  cases hg : zo_good (S 0 0) x
  · rw [if_pos (by decide), if_neg (by simp)]
  · rw [if_neg (by decide)]
    simp only [if_true]
    obtain ⟨v, hv, rfl, -⟩ := zo_good_t hg
    rw [nI_clamp (show v < 2 ^ 31 by omega)]
    simp only [zr_g15, Option.bind_some, zr_l15 hv]
theorem zs_balance (hI : zi T S) (x a s : Int32) : zf_Mo_balance m x a s (zr d m S) = some (zo_balance S x a s, zr d m S) := by
  unfold zf_Mo_balance zf_Mo_balance_44 zf_Mo_balance_45 zo_balance
  simp only [zr_gc, Option.bind_some, zs_good hI.1, zs_in, zo_in (show 3 < 2 ^ 31 by decide), zo_in (show 1 < 2 ^ 31 by decide), Nat.reduceAdd]
  cases hg : zo_good (S 0 0) x
  · rw [if_pos (by decide), if_neg (by simp)]
  · rw [if_neg (by decide)]
    cases h1 : zo_kin 4 a
    · rw [if_pos (by decide), if_neg (by simp)]
    · rw [if_neg (by decide)]
      cases h2 : zo_kin 2 s
      · rw [if_pos (by decide), if_neg (by simp)]
      · rw [if_neg (by decide)]
        simp only [and_self, if_true]
        obtain ⟨v, hv, rfl, -⟩ := zo_good_t hg
        obtain ⟨a, ha, rfl⟩ := zo_kin_t h1
        obtain ⟨s, hs, rfl⟩ := zo_kin_t h2
        rw [nI_clamp (show v < 2 ^ 31 by omega), nI_clamp (show a < 2 ^ 31 by omega), nI_clamp (show s < 2 ^ 31 by omega)]
        simp only [zr_g26, Option.bind_some, pk_mul, nI_add, zr_l26 (show 8 * v + 2 * a + s < 40 by omega)]
theorem zs_offer (hI : zi T S) (x k : Int32) : zf_Mo_offer m x k (zr d m S) = some (zo_offer S x k, zr d m S) := by
  unfold zf_Mo_offer zf_Mo_offer_24 zo_offer
  simp only [zr_gc, Option.bind_some, zs_good hI.1]
  cases hg : zo_good (S 0 0) x
  · rw [if_pos (by decide), if_neg (by simp)]
  · rw [if_neg (by decide)]
    obtain ⟨v, hv, rfl, -⟩ := zo_good_t hg
    have hL := (hI.2.2.2.2.2.2.2.2.2.2.2.1 v hv).2.2.1
    have hr : S 27 v ≤ 8 := hL
    rw [nI_clamp (show v < 2 ^ 31 by omega)]
    simp only [zr_g27, Option.bind_some, zr_l27 hv, zs_in, zo_kin_in (show S 27 v < 2 ^ 31 by omega)]
    cases h1 : zo_kin (S 27 v) k
    · rw [if_pos (by decide), if_neg (by simp)]
    · rw [if_neg (by decide)]
      simp only [and_self, if_true]
      obtain ⟨k, hk, rfl⟩ := zo_kin_t h1
      rw [nI_clamp (show k < 2 ^ 31 by omega)]
      have h45 : 9 * v + k < 45 := by omega
      simp only [zr_g28, zr_g29, zr_g30, zr_g31, Option.bind_some, pk_mul, nI_add, zr_l28 h45, zr_l29 h45, zr_l30 h45, zr_l31 h45]
theorem zs_envelopes : zf_Mo_envelopes m (zr d m S) = some (nI (S 16 0), zr d m S) := by
  unfold zf_Mo_envelopes
  simp only [zr_i16, Option.bind_some]
end RQ
