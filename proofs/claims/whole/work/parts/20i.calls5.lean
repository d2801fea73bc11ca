/-! The class's calls: post, forge. -/
/-- a fresh envelope at the heap's end -/
def yE (d d' : za_h) (v s : Nat) (f g : Nat → Nat) : Prop := d'.2 = d.2 + 3 ∧ d'.1 d.2 = some (yen v s (d.2 + 1) (d.2 + 2)) ∧ d'.1 (d.2 + 1) = some (yar f) ∧ d'.1 (d.2 + 2) = some (yar g) ∧ ∀ b, b < d.2 → d'.1 b = d.1 b
section YPF
variable {d d' : za_h} {x v : Nat} {T : Nat → Nat → Nat} {U : Nat → Nat → Option Nat} {S : Nat → Nat → Nat} {N s : Nat} {f g : Nat → Nat}
theorem zpd {ci k a : Nat} {fs : List Value} {y : Value} (ha : x + 191 ≤ a) (h : d.1 a = some (.inr (ci, fs))) (hk : k < fs.length) : zp_f (zx d x T U) a ci k y = some (zx (za_w d a (.inr (ci, fs.set k y))) x T U) := by
  unfold zp_f
  rw [zx_out (Or.inr ha), h]
  show (if ci = ci ∧ k < fs.length then _ else _) = _
  rw [if_pos ⟨rfl, hk⟩, zx_wd ha]
theorem za_w_s {a : Nat} {c : za_c} : (za_w d a c).1 a = some c := by show (if a = a then _ else _) = _; rw [if_pos rfl]
theorem za_w_o {a b : Nat} {c : za_c} (h : b ≠ a) : (za_w d a c).1 b = d.1 b := by show (if b = a then _ else d.1 b) = _; rw [if_neg h]
theorem yei (hd : x + 191 ≤ d.2) : ∃ d', zf_Envelope_init d.2 (nI v) (nI s) (zx (za_n d (.inr (2, [.int 0, .int 0, .null, .null]))) x T U) = some ((), zx d' x T U) ∧ yE d d' v s (fun _ => 0) (fun _ => 0) := by
  have e1 : (za_n (za_n d (.inr (2, [.int (nI v), .int (nI s), .null, .null]))) (.inl (0, 3, .inl (fun _ => 0)))).1 d.2 = some (.inr (2, [.int (nI v), .int (nI s), .null, .null])) := by
    rw [za_n_o (by show d.2 ≠ d.2 + 1; omega), za_n_s]
  unfold zf_Envelope_init
  rw [znp hd (Nat.le_of_ble_eq_true rfl), zbs, znp hd (Nat.le_of_ble_eq_true rfl), zbs]
  show ∃ d', (((zp_f (za_n (zx (za_n d (.inr (2, [.int (nI v), .int (nI s), .null, .null]))) x T U) (.inl (0, 3, .inl (fun _ => 0)))) d.2 2 2 (.ref (d.2 + 1))).bind fun σ6 => (zp_f (za_n σ6 (.inl (0, 3, .inl (fun _ => 0)))) d.2 2 3 (.ref σ6.2)).bind fun σ8 => some ((), σ8)) = some ((), zx d' x T U)) ∧ _
  rw [zx_nd (by show x + 191 ≤ d.2 + 1; omega), zpd hd e1 (Nat.le_of_ble_eq_true rfl), zbs]
  have e2 : (za_n (za_w (za_n (za_n d (.inr (2, [.int (nI v), .int (nI s), .null, .null]))) (.inl (0, 3, .inl (fun _ => 0)))) d.2 (.inr (2, [.int (nI v), .int (nI s), .ref (d.2 + 1), .null]))) (.inl (0, 3, .inl (fun _ => 0)))).1 d.2 = some (.inr (2, [.int (nI v), .int (nI s), .ref (d.2 + 1), .null])) := by
    rw [za_n_o (by show d.2 ≠ d.2 + 1 + 1; omega), za_w_s]
  show ∃ d', (((zp_f (za_n (zx (za_w (za_n (za_n d (.inr (2, [.int (nI v), .int (nI s), .null, .null]))) (.inl (0, 3, .inl (fun _ => 0)))) d.2 (.inr (2, [.int (nI v), .int (nI s), .ref (d.2 + 1), .null]))) x T U) (.inl (0, 3, .inl (fun _ => 0)))) d.2 2 3 (.ref (d.2 + 2))).bind fun σ8 => some ((), σ8)) = some ((), zx d' x T U)) ∧ _
  rw [zx_nd (by show x + 191 ≤ d.2 + 1 + 1; omega), zpd hd e2 (Nat.le_of_ble_eq_true rfl), zbs]
  refine ⟨_, rfl, rfl, ?_, ?_, ?_, fun b hb => ?_⟩
  · rw [za_w_s]; rfl
  · rw [za_w_o (by omega), za_n_o (by show d.2 + 1 ≠ d.2 + 1 + 1; omega), za_w_o (by omega)]
    exact za_n_s (d := za_n d (.inr (2, [.int (nI v), .int (nI s), .null, .null])))
  · rw [za_w_o (by omega)]
    exact za_n_s (d := za_w (za_n (za_n d (.inr (2, [.int (nI v), .int (nI s), .null, .null]))) (.inl (0, 3, .inl (fun _ => 0)))) d.2 (.inr (2, [.int (nI v), .int (nI s), .ref (d.2 + 1), .null])))
  · rw [za_w_o (by omega), za_n_o (by show b ≠ d.2 + 1 + 1; omega), za_w_o (by omega), za_n_o (by show b ≠ d.2 + 1; omega), za_n_o (by omega)]
def yset (f : Nat → Nat) (j y : Nat) : Nat → Nat := fun i => if i = j then y else f i
theorem yar_s {a : Nat} (ha : x + 191 ≤ a) (h : d.1 a = some (yar f)) {j y : Nat} (hj : j < 3) : za_st (zx d x T U) a 0 (nI j) (nI y) = some (zx (za_w d a (yar (yset f j y))) x T U) := by
  unfold za_st; rw [zx_out (Or.inr ha), h]
  show (if 0 = 0 ∧ ¬ (nI j < 0 ∨ 3 ≤ (nI j).toNatClampNeg) then _ else _) = _
  rw [if_pos ⟨rfl, zn_in hj (by decide)⟩, nI_clamp (by omega), zx_wd ha]
  have : upd (fun j => nI (f j)) j (nI y) = fun i => nI (yset f j y i) := by
    funext i
    unfold upd yset
    split <;> rfl
  rw [this]; rfl
/-- both arrays set at a kind -/
theorem yE_st (hd : x + 191 ≤ d.2) (hE : yE d d' v s f g) {j y z : Nat} (hj : j < 3) : ∃ e1 e2, za_st (zx d' x T U) (d.2 + 1) 0 (nI j) (nI y) = some (zx e1 x T U) ∧ zg_r (zx e1 x T U) d.2 2 3 = some (d.2 + 2) ∧ za_st (zx e1 x T U) (d.2 + 2) 0 (nI j) (nI z) = some (zx e2 x T U) ∧ yE d e2 v s (yset f j y) (yset g j z) := by
  obtain ⟨h2, h3, h4, h5, h6⟩ := hE
  have a1 : (za_w d' (d.2 + 1) (yar (yset f j y))).1 d.2 = some (yen v s (d.2 + 1) (d.2 + 2)) := by rw [za_w_o (by omega)]; exact h3
  have a2 : (za_w d' (d.2 + 1) (yar (yset f j y))).1 (d.2 + 2) = some (yar g) := by rw [za_w_o (by omega)]; exact h5
  refine ⟨za_w d' (d.2 + 1) (yar (yset f j y)), za_w (za_w d' (d.2 + 1) (yar (yset f j y))) (d.2 + 2) (yar (yset g j z)), yar_s (by omega) h4 hj, yen_3 hd a1, yar_s (by omega) a2 hj, h2, ?_, ?_, za_w_s, fun b hb => ?_⟩
  · rw [za_w_o (by omega)]; exact a1
  · rw [za_w_o (by omega), za_w_s]
  · rw [za_w_o (by omega), za_w_o (by omega)]; exact h6 b hb
theorem yclaim (hd : x + 191 ≤ d.2) (hE : yE d d' v s f g) {j y : Nat} (hj : j < 3) : ∃ e, zf_Envelope_claim d.2 (nI j) (nI y) (zx d' x T U) = some ((), zx e x T U) ∧ yE d e v s (yset f j y) (yset g j y) := by
  obtain ⟨e1, e2, s1, s2, s3, s4⟩ := yE_st (x := x) (T := T) (U := U) hd hE (y := y) (z := y) hj
  refine ⟨e2, ?_, s4⟩
  unfold zf_Envelope_claim
  rw [yen_2 hd hE.2.1, zbs, s1, zbs, s2, zbs, s3, zbs]
theorem ykeep (hd : x + 191 ≤ d.2) (hE : yE d d' v s f g) (hm : T 0 5 < 120) : zf_TL_keepEnvelope x d.2 (zx d' x T U) = some (nI (T 0 5), zx d' x (u2 (u2 T 0 6 1) 0 5 (T 0 5 + 1)) (uu U 190 (T 0 5) (some d.2))) := by
  have e5 : u2 T 0 6 1 0 5 = T 0 5 := u2_i (by decide)
  have esq := zx_sq (d := d') (x := x) (q := 190) (t := 3) (n := 120) (ci := 2) (i := T 0 5) (T := u2 T 0 6 1) (U := U) (o := some d.2) (by decide) (fun U => zc_ml) hm (by decide) (fun a ha => by cases ha; exact yen_c hd hE.2.1)
  unfold zf_TL_keepEnvelope
  rw [xo_p6, zbs, xo_g4, zbs, xo_g5, zbs, e5, esq, zbs, xo_g5, zbs, e5, nI_add, xo_p5, zbs, xo_g5, zbs, u2_s, pk_sub (by omega), Nat.add_sub_cancel]
theorem yR_mail (hR : yR d x T U S) (hm : S 16 0 < 120) (hE : yE d d' v s f g) {F : Nat → Nat} (hF : ∀ j, j < 3 → f j = F (2 * j) ∧ g j = F (2 * j + 1)) : yR d' x (u2 (u2 T 0 6 1) 0 5 (S 16 0 + 1)) (uu U 190 (S 16 0) (some d.2)) (zo_mail S v s F) := by
  obtain ⟨h2, h3, h4, h5, h6⟩ := hE
  have hd := hR.2.2.2.2.2.2.2
  have r : ∀ k, k ≠ 19 → k ≠ 17 → k ≠ 18 → k ≠ 16 → k ≠ 1 → zo_mail S v s F k = S k := by
    intro k a b c e g
    funext i
    unfold zo_mail
    rw [if_neg (by omega), if_neg (by omega), if_neg (by omega), if_neg (by omega), if_neg (by omega)]
  have rT : ∀ q, q ≠ 0 → u2 (u2 T 0 6 1) 0 5 (S 16 0 + 1) q = T q := fun q hq => by rw [u2_row hq, u2_row hq]
  have hU : ∀ q, q ≠ 190 → uu U 190 (S 16 0) (some d.2) q = U q := by
    intro q hq
    funext j
    unfold uu
    rw [if_neg (fun h => hq h.1)]
  have z16 : zo_mail S v s F 16 0 = S 16 0 + 1 := by
    unfold zo_mail
    rw [if_neg (by omega), if_neg (by omega), if_neg (by omega), if_pos ⟨rfl, rfl⟩]
  have z1 : zo_mail S v s F 1 0 = 1 := by
    unfold zo_mail
    rw [if_neg (by omega), if_neg (by omega), if_neg (by omega), if_neg (by omega), if_pos ⟨rfl, rfl⟩]
  obtain ⟨g1, g2, g3, g4, g5⟩ := hR.1
  refine yR_fr hR ⟨?_, ?_, ?_, fun w hw => ?_, fun w hw => ?_⟩ (fun q j hq => by rw [rT q (by omega)]) (fun k hk => r k (by omega) (by omega) (by omega) (by omega) (by omega)) (fun w hw => hU _ (by unfold qL; omega)) (by omega) (fun b h1 _ => h6 b h1) (yRt_fr hR.2.2.2.2.2.1 (hU 189 (by decide)) (fun k a b => r k (by omega) (by omega) (by omega) (by omega) (by omega)) (by omega) (fun b h1 _ => h6 b h1)) ?_
  · rw [u2_i (by decide), u2_i (by decide), r 0 (by decide) (by decide) (by decide) (by decide) (by decide)]; exact g1
  · rw [u2_s, z16]
  · rw [u2_i (by decide), u2_s, z1]
  · rw [rT (3 + w) (by omega), r 2 (by decide) (by decide) (by decide) (by decide) (by decide), r 3 (by decide) (by decide) (by decide) (by decide) (by decide), r 4 (by decide) (by decide) (by decide) (by decide) (by decide), r 5 (by decide) (by decide) (by decide) (by decide) (by decide)]; exact g4 w hw
  · rw [rT (qN w) (by unfold qN; omega), r 7 (by decide) (by decide) (by decide) (by decide) (by decide), r 15 (by decide) (by decide) (by decide) (by decide) (by decide)]; exact g5 w hw
  · intro k hk
    rw [z16]
    by_cases hkn : k = S 16 0
    · subst hkn
      refine ⟨fun _ => ⟨d.2, d.2 + 1, d.2 + 2, ?_, hd, by omega, by omega, by omega, by omega, by omega, ?_, ⟨f, h4, fun j hj => ?_⟩, ⟨g, h5, fun j hj => ?_⟩⟩, fun h => by omega⟩
      · unfold uu; rw [if_pos ⟨rfl, rfl⟩]
      · have z17 : zo_mail S v s F 17 (S 16 0) = v := by unfold zo_mail; rw [if_neg (by omega), if_pos ⟨rfl, rfl⟩]
        have z18 : zo_mail S v s F 18 (S 16 0) = s := by unfold zo_mail; rw [if_neg (by omega), if_neg (by omega), if_pos ⟨rfl, rfl⟩]
        rw [z17, z18]; exact h3
      · have : zo_mail S v s F 19 (6 * S 16 0 + 2 * j) = F (2 * j) := by
          unfold zo_mail; rw [if_pos ⟨rfl, by omega, by omega⟩, show 6 * S 16 0 + 2 * j - 6 * S 16 0 = 2 * j by omega]
        rw [this]; exact (hF j hj).1
      · have : zo_mail S v s F 19 (6 * S 16 0 + 2 * j + 1) = F (2 * j + 1) := by
          unfold zo_mail; rw [if_pos ⟨rfl, by omega, by omega⟩, show 6 * S 16 0 + 2 * j + 1 - 6 * S 16 0 = 2 * j + 1 by omega]
        rw [this]; exact (hF j hj).2
    · have hUk : uu U 190 (S 16 0) (some d.2) 190 k = U 190 k := by unfold uu; rw [if_neg (fun h => hkn h.2)]
      have z17 : zo_mail S v s F 17 k = S 17 k := by unfold zo_mail; rw [if_neg (by omega), if_neg (by omega), if_neg (by omega), if_neg (by omega), if_neg (by omega)]
      have z18 : zo_mail S v s F 18 k = S 18 k := by unfold zo_mail; rw [if_neg (by omega), if_neg (by omega), if_neg (by omega), if_neg (by omega), if_neg (by omega)]
      have z19 : ∀ i, i < 6 * S 16 0 → zo_mail S v s F 19 i = S 19 i := fun i hi => by unfold zo_mail; rw [if_neg (by omega), if_neg (by omega), if_neg (by omega), if_neg (by omega), if_neg (by omega)]
      rw [hUk, z17, z18]
      refine ⟨fun h => ?_, fun h => (hR.2.2.2.2.2.2.1 k hk).2 (by omega)⟩
      obtain ⟨a, b, c, a1, a2, a3, b2, b3, c2, c3, a4, ⟨f', b4, b5⟩, ⟨g', c4, c5⟩⟩ := (hR.2.2.2.2.2.2.1 k hk).1 (by omega)
      exact ⟨a, b, c, a1, a2, by omega, b2, by omega, c2, by omega, by rw [h6 a a3]; exact a4, ⟨f', by rw [h6 b b3]; exact b4, fun j hj => by rw [z19 _ (by omega)]; exact b5 j hj⟩, ⟨g', by rw [h6 c c3]; exact c4, fun j hj => by rw [z19 _ (by omega)]; exact c5 j hj⟩⟩
theorem ypost52 (hR : yR d x T U S) (hm : S 16 0 < 120) (hv : v < 5) (hs : s < 3) : ∀ n j fu d' f g, j + n = 3 → n < fu → yE d d' v s f g → (∀ i, i < j → f i = zo_pf S v s (2 * i) ∧ g i = zo_pf S v s (2 * i + 1)) → ∃ e f' g', zf_TL_post_52 fu x (nI v) (nI s) d.2 (nI j) (zx d' x T U) = some (nI (S 16 0), zx e x (u2 (u2 T 0 6 1) 0 5 (S 16 0 + 1)) (uu U 190 (S 16 0) (some d.2))) ∧ yE d e v s f' g' ∧ ∀ i, i < 3 → f' i = zo_pf S v s (2 * i) ∧ g' i = zo_pf S v s (2 * i + 1) := by
  have hd := hR.2.2.2.2.2.2.2
  intro n
  induction n with
  | zero =>
    intro j fu d' f g hj hf hE hF
    obtain ⟨fu, rfl⟩ : ∃ q, fu = q + 1 := ⟨fu - 1, by omega⟩
    obtain rfl : j = 3 := by omega
    refine ⟨d', f, g, ?_, hE, hF⟩
    have e5 := hR.1.2.1
    rw [zf_TL_post_52, if_pos (Int32.le_refl _), xo_c, zbs, ykeep (by omega) hE (by omega), zbs, e5]
  | succ n ih =>
    intro j fu d' f g hj hf hE hF
    obtain ⟨fu, rfl⟩ : ∃ q, fu = q + 1 := ⟨fu - 1, by omega⟩
    have hj3 : j < 3 := by omega
    obtain ⟨k1, k2, k3, k4⟩ := (hR.2.1 v s hv hs).2 j hj3
    have p0 : zo_pf S v s (2 * j) = T (qS v s j + 1) v := by
      unfold zo_pf; rw [if_pos (by omega), show 2 * j / 2 = j by omega, k4]
    have p1 : zo_pf S v s (2 * j + 1) = T (qS v s j + 2) v := by
      unfold zo_pf; rw [if_neg (by omega), show (2 * j + 1) / 2 = j by omega, k3]
    obtain ⟨e1, e2, s1, s2, s3, s4⟩ := yE_st (x := x) (T := T) (U := U) (by omega) hE (y := zo_pf S v s (2 * j)) (z := zo_pf S v s (2 * j + 1)) hj3
    obtain ⟨e, f', g', i1, i2, i3⟩ := ih (j + 1) fu e2 _ _ (by omega) (by omega) s4 (fun i hi => by
      unfold yset
      by_cases h : i = j
      · rw [if_pos h, if_pos h, h]; exact ⟨rfl, rfl⟩
      · rw [if_neg h, if_neg h]; exact hF i (by omega))
    refine ⟨e, f', g', ?_, i2, i3⟩
    rw [zf_TL_post_52, if_neg (nI_ge (by omega) (by decide)), xo_g2, zbs, xns_l _ _ _ _ hv, zbs, xn_g0 _ _ _ _ hv, zbs, xas_l _ _ _ _ hv hs, zbs, xa_c _ _ _ _ hv hs, zbs, yok hv hs hj3, zbs]
    dsimp only
    rw [yen_2 (by omega) hE.2.1, zbs, xs_g4 _ _ _ _ hv hs hj3, zbs, xb_l _ _ _ _ hv hs hj3 hv, zbs, ← p0, s1, zbs, s2, zbs, xs_g5 _ _ _ _ hv hs hj3, zbs, xc_l _ _ _ _ hv hs hj3 hv, zbs, ← p1, s3, zbs, nI_add]
    exact i1
theorem yF_E (hd : x + 221 ≤ d.2) (hE : yE d d' v s f g) : yF x d d' := ⟨by have := hE.1; omega, fun b hb => hE.2.2.2.2 b (by omega)⟩
theorem y_post (hI : zi N S) (hR : yR d x T U S) (a y : Int32) : yOK d x (zo_post S a y) (zf_TL_post x a y (zx d x T U)) := by
  have e0 := hR.1.1
  have hf : T 0 0 < 32 := by rw [e0]; exact hI.1
  have h120 := hI.2.2.1
  have hd := hR.2.2.2.2.2.2.2
  have none : ∀ e : Option (Int32 × za_h), ¬ (zo_good (S 0 0) a = true ∧ zo_kin 3 y = true ∧ y.toNatClampNeg ≤ S 7 a.toNatClampNeg ∧ S 16 0 ≠ 120) → e = some (-1, zx d x T U) → yOK d x (zo_post S a y) e := by
    intro e h1 h2
    unfold zo_post
    rw [if_neg h1, h2]
    exact ⟨d, T, U, rfl, hR, yF_r⟩
  unfold zf_TL_post zf_TL_post_37
  rw [xo_c, zbs, ygood hf, zbs, e0]
  dsimp only
  cases hg : zo_good (S 0 0) a
  · rw [if_pos (by decide)]; exact none _ (by simp [hg]) rfl
  · rw [if_neg (by decide), ysl, zbs]
    dsimp only
    cases h1 : zo_kin 3 y
    · rw [if_pos (by decide)]; exact none _ (by simp [h1]) rfl
    · obtain ⟨v, hv, rfl, -⟩ := zo_good_t hg
      obtain ⟨s, hs, rfl⟩ := zo_kin_t h1
      obtain ⟨n1, -⟩ := hI.2.2.2.2.2.2.2.1 v hv
      have cv : (nI v).toNatClampNeg = v := nI_clamp (by omega)
      have cs : (nI s).toNatClampNeg = s := nI_clamp (by omega)
      rw [if_neg (by decide), xo_g2, zbs, xns_l _ _ _ _ hv, zbs, xn_g2 _ _ _ _ hv, zbs, (hR.1.2.2.2.2 v hv).1]
      by_cases h2 : S 7 v < s
      · rw [if_pos (nI_lt h2 (by omega))]
        exact none _ (by rw [cv, cs]; omega) rfl
      · rw [if_neg (nI_nlt (by omega) (by omega)), xo_g5, zbs, hR.1.2.1]
        by_cases h3 : S 16 0 < 120
        · rw [if_pos (nI_lt h3 (by decide)), zx_2, zx_nd (by omega)]
          obtain ⟨d', e1, e2⟩ := yei (d := d) (x := x) (T := T) (U := U) (v := v) (s := s) (by omega)
          rw [e1, zbs]
          dsimp only
          obtain ⟨e, f', g', i1, i2, i3⟩ := ypost52 hR h3 hv hs 3 0 6 d' _ _ (by decide) (by decide) e2 (fun i hi => by omega)
          rw [i1]
          unfold zo_post
          rw [if_pos ⟨hg, h1, by rw [cv, cs]; omega, by omega⟩, cv, cs]
          exact ⟨e, _, _, rfl, yR_mail hR h3 i2 i3, yF_E hd i2⟩
        · rw [if_neg (nI_nlt (by omega) (by omega))]
          exact none _ (fun h => h.2.2.2 (by omega)) rfl
theorem y_forge (hI : zi N S) (hR : yR d x T U S) (a y p q r : Int32) : yOK d x (zo_forge S a y p q r) (zf_TL_forge x a y p q r (zx d x T U)) := by
  have e0 := hR.1.1
  have hS0 := hI.1
  have h120 := hI.2.2.1
  have hd := hR.2.2.2.2.2.2.2
  have none : ∀ e : Option (Int32 × za_h), ¬ (zo_kin 5 a = true ∧ zo_good (S 0 0) a = false ∧ zo_kin 3 y = true ∧ S 16 0 ≠ 120) → e = some (-1, zx d x T U) → yOK d x (zo_forge S a y p q r) e := by
    intro e h1 h2
    unfold zo_forge
    rw [if_neg h1, h2]
    exact ⟨d, T, U, rfl, hR, yF_r⟩
  have f24 : zf_TL_forge_24 x a y p q r (zx d x T U) = some (-1, zx d x T U) := by
    unfold zf_TL_forge_24 zf_TL_forge_25 zf_TL_forge_48
    rw [if_pos (by decide)]
  unfold zf_TL_forge
  rw [yw, zbs, zo_in (show 4 < 2 ^ 31 by decide)]
  dsimp only
  cases h1 : zo_kin (4 + 1) a
  · rw [if_pos (by decide)]; exact none _ (fun h => by rw [h.1] at h1; cases h1) f24
  · obtain ⟨v, hv, rfl⟩ := zo_kin_t h1
    have hv : v < 5 := hv
    rw [if_neg (by decide), xo_g0, zbs, e0, yh (by omega) (by omega), zbs]
    dsimp only
    cases hb : (S 0 0).testBit v
    · rw [if_pos (by decide)]
      exact none _ (fun h => by rw [zo_good_i hv hb] at h; cases h.2.1) f24
    · have hng : zo_good (S 0 0) (nI v) = false := by
        cases hg : zo_good (S 0 0) (nI v) with
        | false => rfl
        | true =>
          obtain ⟨w, q1, q2, q3⟩ := zo_good_t hg
          rw [← (nI_eq (by omega) (by omega)).mp q2, hb] at q3
          cases q3
      rw [if_neg (by decide)]
      unfold zf_TL_forge_25 zf_TL_forge_48
      rw [if_neg (by decide), ysl, zbs]
      dsimp only
      cases h2 : zo_kin 3 y
      · rw [if_pos (by decide)]; exact none _ (by simp [h2]) rfl
      · obtain ⟨s, hs, rfl⟩ := zo_kin_t h2
        rw [if_neg (by decide), xo_g5, zbs, hR.1.2.1]
        by_cases h3 : S 16 0 < 120
        · rw [if_pos (nI_lt h3 (by decide)), zx_2, zx_nd (by omega)]
          obtain ⟨d', e1, e2⟩ := yei (d := d) (x := x) (T := T) (U := U) (v := v) (s := s) (by omega)
          have ep : p &&& nI 254 = nI (p.toBitVec.toNat &&& 254) := by rw [← zn_and, ← zn_un]
          have eq : q &&& nI 268435455 = nI (q.toBitVec.toNat &&& 268435455) := by rw [← zn_and, ← zn_un]
          have er : r &&& nI 268435455 = nI (r.toBitVec.toNat &&& 268435455) := by rw [← zn_and, ← zn_un]
          obtain ⟨d1, c1, c2⟩ := yclaim (x := x) (T := T) (U := U) (j := 0) (y := p.toBitVec.toNat &&& 254) (by omega) e2 (by decide)
          obtain ⟨d2, c3, c4⟩ := yclaim (x := x) (T := T) (U := U) (j := 1) (y := q.toBitVec.toNat &&& 268435455) (by omega) c2 (by decide)
          obtain ⟨d3, c5, c6⟩ := yclaim (x := x) (T := T) (U := U) (j := 2) (y := r.toBitVec.toNat &&& 268435455) (by omega) c4 (by decide)
          rw [e1, zbs]
          dsimp only
          rw [yen_c (by omega) e2.2.1, zbs, ep, c1, zbs]
          dsimp only
          rw [yen_c (by omega) c2.2.1, zbs, eq, c3, zbs]
          dsimp only
          rw [yen_c (by omega) c4.2.1, zbs, er, c5, zbs]
          dsimp only
          rw [xo_c, zbs, ykeep (by omega) c6 (by rw [hR.1.2.1]; exact h3), zbs, hR.1.2.1]
          unfold zo_forge
          rw [if_pos ⟨h1, hng, h2, by omega⟩, nI_clamp (show v < 2 ^ 31 by omega), nI_clamp (show s < 2 ^ 31 by omega)]
          refine ⟨d3, _, _, rfl, yR_mail hR h3 c6 (fun j hj => ?_), yF_E hd c6⟩
          rcases (show j = 0 ∨ j = 1 ∨ j = 2 by omega) with rfl | rfl | rfl <;> exact ⟨rfl, rfl⟩
        · rw [if_neg (nI_nlt (by omega) (by omega))]
          exact none _ (fun h => h.2.2.2 (by omega)) rfl
end YPF
