/-! Constructors: the reference. -/
def zS0 : Nat → Nat → Nat := fun _ _ => 0
def mf (m k i : Nat) : Value := if i = 0 ∨ i = 1 ∨ i = 16 then .int 0 else if (if i < 16 then i - 1 else i - 2) ≤ k then .ref (m + (if i < 16 then i - 1 else i - 2)) else .null
def mF (m k : Nat) : List Value := (List.range 32).map (mf m k)
def mA (k : Nat) : List za_c := (List.range k).map fun j => zr_c zS0 (j + 1)
def mB (m k : Nat) : List za_c := .inr (10, mF m k) :: mA k
theorem mF_s {m k : Nat} (hk : k < 29) : (mF m k).set (zr_k (k + 1)) (.ref (m + (k + 1))) = mF m (k + 1) := by
  apply List.ext_getElem?
  intro i
  unfold mF
  rw [List.getElem?_set, List.getElem?_map, List.getElem?_map, List.length_map, List.length_range]
  have hz : zr_k (k + 1) = if k + 1 < 15 then k + 2 else k + 3 := rfl
  by_cases hi : i < 32
  · rw [List.getElem?_range hi]
    show (if zr_k (k + 1) = i then if zr_k (k + 1) < 32 then some (Value.ref (m + (k + 1))) else none else some (mf m k i)) = some (mf m (k + 1) i)
    by_cases h : zr_k (k + 1) = i
    · have h2 : ¬ (i = 0 ∨ i = 1 ∨ i = 16) := by split at hz <;> omega
      have h3 : (if i < 16 then i - 1 else i - 2) = k + 1 := by split at hz <;> split <;> omega
      rw [if_pos h, if_pos (by omega)]
      unfold mf
      rw [if_neg h2, h3, if_pos (Nat.le_refl _)]
    · rw [if_neg h]
      unfold mf
      by_cases h2 : i = 0 ∨ i = 1 ∨ i = 16
      · rw [if_pos h2, if_pos h2]
      · rw [if_neg h2, if_neg h2]
        have h3 : (if i < 16 then i - 1 else i - 2) ≠ k + 1 := by split at hz <;> split <;> omega
        generalize (if i < 16 then i - 1 else i - 2) = w at h3 ⊢
        by_cases h4 : w ≤ k
        · rw [if_pos h4, if_pos (by omega)]
        · rw [if_neg h4, if_neg (by omega)]
  · rw [List.getElem?_eq_none (by rw [List.length_range]; omega)]
    have h : zr_k (k + 1) ≠ i := by split at hz <;> omega
    rw [if_neg h]
    rfl
theorem mA_s {k : Nat} : mA k ++ [zr_c zS0 (k + 1)] = mA (k + 1) := by
  unfold mA
  rw [List.range_succ, List.map_append]
  rfl
theorem mA_len {k : Nat} : (mA k).length = k := by unfold mA; rw [List.length_map, List.length_range]
theorem zh_n0 {τ : za_h} {c : za_c} (hτ : ∀ a, τ.2 ≤ a → τ.1 a = none) : za_n τ c = zh τ [c] := by
  have : τ = zh τ [] := by
    refine Prod.ext ?_ rfl
    funext a
    show τ.1 a = if a < τ.2 then τ.1 a else ([] : List za_c)[a - τ.2]?
    split
    · rfl
    · rw [hτ a (by omega)]; rfl
  exact (congrArg (fun h => za_n h c) this).trans zh_n
theorem mk_s {τ : za_h} {k : Nat} (hk : k < 29) : zp_f (za_n (zh τ (mB τ.2 k)) (zr_c zS0 (k + 1))) τ.2 10 (zr_k (k + 1)) (.ref (zh τ (mB τ.2 k)).2) = some (zh τ (mB τ.2 (k + 1))) := by
  have l : (zh τ (mB τ.2 k)).2 = τ.2 + (k + 1) := by
    show τ.2 + (mB τ.2 k).length = _
    unfold mB
    rw [List.length_cons, mA_len]
  rw [zh_n, l]
  refine zh_q (i := 0) (fs := mF τ.2 k) rfl rfl ?_ ?_
  · unfold mF
    rw [List.length_map, List.length_range]
    have hz : zr_k (k + 1) = if k + 1 < 15 then k + 2 else k + 3 := rfl
    split at hz <;> omega
  · show .inr (10, (mF τ.2 k).set (zr_k (k + 1)) (.ref (τ.2 + (k + 1)))) :: (mA k ++ [zr_c zS0 (k + 1)]) = _
    rw [mF_s hk, mA_s]
    rfl
theorem mB_zr {τ : za_h} (hτ : ∀ a, τ.2 ≤ a → τ.1 a = none) : zh τ (mB τ.2 29) = zr (τ.1, τ.2 + 30) τ.2 zS0 := by
  refine Prod.ext ?_ rfl
  funext a
  by_cases h1 : a < τ.2
  · rw [zh_lo h1, zr_frame (Or.inl h1)]
  · obtain ⟨q, rfl⟩ : ∃ q, a = τ.2 + q := ⟨a - τ.2, by omega⟩
    by_cases h2 : q < 30
    · by_cases h0 : q = 0
      · subst h0
        exact (zh_at (i := 0) rfl rfl).trans (zr_at0 (τ.1, τ.2 + 30) τ.2 zS0).symm
      · obtain ⟨r, rfl⟩ : ∃ r, q = r + 1 := ⟨q - 1, by omega⟩
        have e : (mB τ.2 29)[r + 1]? = some (zr_c zS0 (r + 1)) := by
          show (mA 29)[r]? = _
          unfold mA
          rw [List.getElem?_map, List.getElem?_range (by omega)]; rfl
        rw [zh_at rfl e, zr_at (by omega) h2]
    · rw [zr_frame (Or.inr (by omega))]
      show (if τ.2 + q < τ.2 then τ.1 (τ.2 + q) else (mB τ.2 29)[τ.2 + q - τ.2]?) = τ.1 (τ.2 + q)
      rw [if_neg (by omega), List.getElem?_eq_none (by unfold mB; rw [List.length_cons, mA_len]; omega), hτ _ (by omega)]
theorem zr_p0 (d : za_h) (m v : Nat) (S : Nat → Nat → Nat) : zp_f (zr d m S) m 10 0 (.int (nI v)) = some (zr d m (u2 S 0 0 v)) := by
  unfold zp_f
  rw [zr_at0]
  show (if 10 = 10 ∧ 0 < 32 then _ else _) = _
  rw [if_pos ⟨rfl, by decide⟩]
  congr 1
  refine Prod.ext ?_ rfl
  funext a
  show (if a = m then _ else (zr d m S).1 a) = (zr d m (u2 S 0 0 v)).1 a
  by_cases hm : a = m
  · subst hm
    rw [if_pos rfl, zr_at0]
    unfold zr_o
    simp only [u2_s, u2_k (show (1 : Nat) ≠ 0 by decide), u2_k (show (16 : Nat) ≠ 0 by decide)]
    rfl
  · rw [if_neg hm]
    simp only [zr, if_neg hm]
    by_cases hr : m < a ∧ a < m + 30
    · rw [if_pos hr, if_pos hr]
      unfold zr_c
      rw [u2_row (zr_k3 (a - m) (by omega)).1]
    · rw [if_neg hr, if_neg hr]
/-- the reference's registers while they are filled -/
def zSi (fa p c : Nat) : Nat → Nat → Nat := fun k i => if k = 0 ∧ i = 0 then fa else if k = 2 ∧ i < p then 4 else if k = 3 ∧ i < p then 31 else if k = 26 ∧ i < c then (if i % 2 = 0 then 100 else 20) else 0
theorem zSi_0 {fa : Nat} : u2 zS0 0 0 fa = zSi fa 0 0 := by
  funext k i
  unfold u2 zSi zS0
  by_cases h : k = 0 ∧ i = 0
  · rw [if_pos h, if_pos h]
  · rw [if_neg h, if_neg h, if_neg (by omega), if_neg (by omega), if_neg (by omega)]
theorem zSi_p {fa p c : Nat} : u2 (u2 (zSi fa p c) 2 p 4) 3 p 31 = zSi fa (p + 1) c := by
  funext k i
  unfold u2 zSi
  by_cases h3 : k = 3 ∧ i = p
  · rw [if_pos h3, if_neg (by omega), if_neg (by omega), if_pos (by omega)]
  · rw [if_neg h3]
    by_cases h2 : k = 2 ∧ i = p
    · rw [if_pos h2, if_neg (by omega), if_pos (by omega)]
    · rw [if_neg h2]
      by_cases h0 : k = 0 ∧ i = 0
      · rw [if_pos h0, if_pos h0]
      · rw [if_neg h0, if_neg h0]
        by_cases a2 : k = 2 ∧ i < p
        · rw [if_pos a2, if_pos (by omega)]
        · rw [if_neg a2, if_neg (show ¬ (k = 2 ∧ i < p + 1) by omega)]
          by_cases a3 : k = 3 ∧ i < p
          · rw [if_pos a3, if_pos (by omega)]
          · rw [if_neg a3, if_neg (show ¬ (k = 3 ∧ i < p + 1) by omega)]
theorem zSi_c {fa p c : Nat} : u2 (zSi fa p c) 26 c (if c % 2 = 0 then 100 else 20) = zSi fa p (c + 1) := by
  funext k i
  unfold u2 zSi
  by_cases h : k = 26 ∧ i = c
  · rw [if_pos h, if_neg (show ¬ (k = 0 ∧ i = 0) by omega), if_neg (show ¬ (k = 2 ∧ i < p) by omega), if_neg (show ¬ (k = 3 ∧ i < p) by omega), if_pos (show k = 26 ∧ i < c + 1 by omega), h.2]
  · rw [if_neg h]
    by_cases h0 : k = 0 ∧ i = 0
    · rw [if_pos h0, if_pos h0]
    · rw [if_neg h0, if_neg h0]
      by_cases a2 : k = 2 ∧ i < p
      · rw [if_pos a2, if_pos a2]
      · rw [if_neg a2, if_neg a2]
        by_cases a3 : k = 3 ∧ i < p
        · rw [if_pos a3, if_pos a3]
        · rw [if_neg a3, if_neg a3]
          by_cases a4 : k = 26 ∧ i < c
          · rw [if_pos a4, if_pos (show k = 26 ∧ i < c + 1 by omega)]
          · rw [if_neg a4, if_neg (show ¬ (k = 26 ∧ i < c + 1) by omega)]
section ZMI
variable {d : za_h} {m fa : Nat}
theorem mk_260 {v : Nat} (hv : v < 5) (k238 : Nat → Int32 → za_h → Option (Unit × za_h)) : ∀ n a fu, a + n = 4 → n < fu → zf_Mo_init_260 k238 fu m (nI v) (nI a) (zr d m (zSi fa (v + 1) (8 * v + 2 * a))) = k238 m (nI (v + 1)) (zr d m (zSi fa (v + 1) (8 * (v + 1)))) := by
  intro n
  induction n with
  | zero =>
    intro a fu ha hf
    obtain ⟨fu, rfl⟩ : ∃ q, fu = q + 1 := ⟨fu - 1, by omega⟩
    obtain rfl : a = 4 := by omega
    rw [zf_Mo_init_260, if_pos (Int32.le_refl _), nI_add, show 8 * v + 2 * 4 = 8 * (v + 1) by omega]
  | succ n ih =>
    intro a fu ha hf
    obtain ⟨fu, rfl⟩ : ∃ q, fu = q + 1 := ⟨fu - 1, by omega⟩
    have c1 : u2 (zSi fa (v + 1) (8 * v + 2 * a)) 26 (8 * v + 2 * a) 100 = zSi fa (v + 1) (8 * v + 2 * a + 1) := by
      have := zSi_c (fa := fa) (p := v + 1) (c := 8 * v + 2 * a)
      rw [if_pos (by omega)] at this
      exact this
    have c2 : u2 (zSi fa (v + 1) (8 * v + 2 * a + 1)) 26 (8 * v + 2 * a + 1) 20 = zSi fa (v + 1) (8 * v + 2 * (a + 1)) := by
      have := zSi_c (fa := fa) (p := v + 1) (c := 8 * v + 2 * a + 1)
      rw [if_neg (by omega)] at this
      exact this
    rw [zf_Mo_init_260, if_neg (nI_ge (by omega) (by decide)), zr_g26, zbs, pk_mul, pk_mul, nI_add, zr_s26 (by omega), zbs, c1, zr_g26, zbs, nI_add, zr_s26 (by omega), zbs, c2, nI_add]
    exact ih (a + 1) fu (by omega) (by omega)
theorem mk_238 (hfa : fa < 32) : ∀ n v fu, v + n = 5 → n < fu → zf_Mo_init_238 fu m (nI v) (zr d m (zSi fa v (8 * v))) = some ((), zr d m (zs_tab (zSi fa 5 40) 32)) := by
  intro n
  induction n with
  | zero =>
    intro v fu hv hf
    obtain ⟨fu, rfl⟩ : ∃ q, fu = q + 1 := ⟨fu - 1, by omega⟩
    obtain rfl : v = 5 := by omega
    have hT : zs_Tb (zSi fa 5 40) := by
      intro w hw
      unfold zSi
      rw [if_neg (by omega), if_pos (by omega), if_neg (by omega), if_neg (by omega), if_pos (by omega), if_neg (by omega), if_neg (by omega), if_neg (by omega), if_neg (by omega), if_neg (by omega), if_neg (by omega), if_neg (by omega), if_neg (by omega)]
      omega
    rw [zf_Mo_init_238, if_pos (Int32.le_refl _), zr_gc, zbs, zs_table hT, zbs]
  | succ n ih =>
    intro v fu hv hf
    obtain ⟨fu, rfl⟩ : ∃ q, fu = q + 1 := ⟨fu - 1, by omega⟩
    have hv5 : v < 5 := by omega
    rw [zf_Mo_init_238, if_neg (nI_ge hv5 (by decide)), zr_g2, zbs, zr_s2 hv5, zbs, zr_g3, zbs, zr_s3 hv5, zbs, zSi_p]
    have := mk_260 (d := d) (m := m) (fa := fa) hv5 (zf_Mo_init_238 fu) 4 0 6 (by decide) (by decide)
    rw [show 8 * v + 2 * 0 = 8 * v from rfl] at this
    rw [this]
    exact ih (v + 1) fu (by omega) (by omega)
end ZMI
theorem mk_Mo {τ : za_h} (hτ : ∀ a, τ.2 ≤ a → τ.1 a = none) {y : Int32} {fa : Nat} (hy : y &&& nI 31 = nI fa) (hfa : fa < 32) : zf_Mo_init τ.2 y (za_n τ (.inr (10, [.int 0, .int 0, .null, .null, .null, .null, .null, .null, .null, .null, .null, .null, .null, .null, .null, .null, .int 0, .null, .null, .null, .null, .null, .null, .null, .null, .null, .null, .null, .null, .null, .null, .null]))) = some ((), zr (τ.1, τ.2 + 30) τ.2 (zs_tab (zSi fa 5 40) 32)) := by
  have e0 : za_n τ (.inr (10, [.int 0, .int 0, .null, .null, .null, .null, .null, .null, .null, .null, .null, .null, .null, .null, .null, .null, .int 0, .null, .null, .null, .null, .null, .null, .null, .null, .null, .null, .null, .null, .null, .null, .null])) = zh τ (mB τ.2 0) := zh_n0 hτ
  have s0 : zp_f (za_n (zh τ (mB τ.2 0)) (.inl (0, 5, .inl (fun _ => 0)))) τ.2 10 2 (.ref (zh τ (mB τ.2 0)).2) = some (zh τ (mB τ.2 1)) := mk_s (k := 0) (by decide)
  have s1 : zp_f (za_n (zh τ (mB τ.2 1)) (.inl (0, 5, .inl (fun _ => 0)))) τ.2 10 3 (.ref (zh τ (mB τ.2 1)).2) = some (zh τ (mB τ.2 2)) := mk_s (k := 1) (by decide)
  have s2 : zp_f (za_n (zh τ (mB τ.2 2)) (.inl (0, 5, .inl (fun _ => 0)))) τ.2 10 4 (.ref (zh τ (mB τ.2 2)).2) = some (zh τ (mB τ.2 3)) := mk_s (k := 2) (by decide)
  have s3 : zp_f (za_n (zh τ (mB τ.2 3)) (.inl (0, 5, .inl (fun _ => 0)))) τ.2 10 5 (.ref (zh τ (mB τ.2 3)).2) = some (zh τ (mB τ.2 4)) := mk_s (k := 3) (by decide)
  have s4 : zp_f (za_n (zh τ (mB τ.2 4)) (.inl (1, 32, .inl (fun _ => 0)))) τ.2 10 6 (.ref (zh τ (mB τ.2 4)).2) = some (zh τ (mB τ.2 5)) := mk_s (k := 4) (by decide)
  have s5 : zp_f (za_n (zh τ (mB τ.2 5)) (.inl (0, 5, .inl (fun _ => 0)))) τ.2 10 7 (.ref (zh τ (mB τ.2 5)).2) = some (zh τ (mB τ.2 6)) := mk_s (k := 5) (by decide)
  have s6 : zp_f (za_n (zh τ (mB τ.2 6)) (.inl (0, 5, .inl (fun _ => 0)))) τ.2 10 8 (.ref (zh τ (mB τ.2 6)).2) = some (zh τ (mB τ.2 7)) := mk_s (k := 6) (by decide)
  have s7 : zp_f (za_n (zh τ (mB τ.2 7)) (.inl (0, 5, .inl (fun _ => 0)))) τ.2 10 9 (.ref (zh τ (mB τ.2 7)).2) = some (zh τ (mB τ.2 8)) := mk_s (k := 7) (by decide)
  have s8 : zp_f (za_n (zh τ (mB τ.2 8)) (.inl (0, 5, .inl (fun _ => 0)))) τ.2 10 10 (.ref (zh τ (mB τ.2 8)).2) = some (zh τ (mB τ.2 9)) := mk_s (k := 8) (by decide)
  have s9 : zp_f (za_n (zh τ (mB τ.2 9)) (.inl (0, 5, .inl (fun _ => 0)))) τ.2 10 11 (.ref (zh τ (mB τ.2 9)).2) = some (zh τ (mB τ.2 10)) := mk_s (k := 9) (by decide)
  have s10 : zp_f (za_n (zh τ (mB τ.2 10)) (.inl (0, 135, .inl (fun _ => 0)))) τ.2 10 12 (.ref (zh τ (mB τ.2 10)).2) = some (zh τ (mB τ.2 11)) := mk_s (k := 10) (by decide)
  have s11 : zp_f (za_n (zh τ (mB τ.2 11)) (.inl (0, 150, .inl (fun _ => 0)))) τ.2 10 13 (.ref (zh τ (mB τ.2 11)).2) = some (zh τ (mB τ.2 12)) := mk_s (k := 11) (by decide)
  have s12 : zp_f (za_n (zh τ (mB τ.2 12)) (.inl (0, 15, .inl (fun _ => 0)))) τ.2 10 14 (.ref (zh τ (mB τ.2 12)).2) = some (zh τ (mB τ.2 13)) := mk_s (k := 12) (by decide)
  have s13 : zp_f (za_n (zh τ (mB τ.2 13)) (.inl (0, 5, .inl (fun _ => 0)))) τ.2 10 15 (.ref (zh τ (mB τ.2 13)).2) = some (zh τ (mB τ.2 14)) := mk_s (k := 13) (by decide)
  have s14 : zp_f (za_n (zh τ (mB τ.2 14)) (.inl (0, 120, .inl (fun _ => 0)))) τ.2 10 17 (.ref (zh τ (mB τ.2 14)).2) = some (zh τ (mB τ.2 15)) := mk_s (k := 14) (by decide)
  have s15 : zp_f (za_n (zh τ (mB τ.2 15)) (.inl (0, 120, .inl (fun _ => 0)))) τ.2 10 18 (.ref (zh τ (mB τ.2 15)).2) = some (zh τ (mB τ.2 16)) := mk_s (k := 15) (by decide)
  have s16 : zp_f (za_n (zh τ (mB τ.2 16)) (.inl (0, 720, .inl (fun _ => 0)))) τ.2 10 19 (.ref (zh τ (mB τ.2 16)).2) = some (zh τ (mB τ.2 17)) := mk_s (k := 16) (by decide)
  have s17 : zp_f (za_n (zh τ (mB τ.2 17)) (.inl (1, 9, .inl (fun _ => 0)))) τ.2 10 20 (.ref (zh τ (mB τ.2 17)).2) = some (zh τ (mB τ.2 18)) := mk_s (k := 17) (by decide)
  have s18 : zp_f (za_n (zh τ (mB τ.2 18)) (.inl (0, 9, .inl (fun _ => 0)))) τ.2 10 21 (.ref (zh τ (mB τ.2 18)).2) = some (zh τ (mB τ.2 19)) := mk_s (k := 18) (by decide)
  have s19 : zp_f (za_n (zh τ (mB τ.2 19)) (.inl (0, 9, .inl (fun _ => 0)))) τ.2 10 22 (.ref (zh τ (mB τ.2 19)).2) = some (zh τ (mB τ.2 20)) := mk_s (k := 19) (by decide)
  have s20 : zp_f (za_n (zh τ (mB τ.2 20)) (.inl (0, 9, .inl (fun _ => 0)))) τ.2 10 23 (.ref (zh τ (mB τ.2 20)).2) = some (zh τ (mB τ.2 21)) := mk_s (k := 20) (by decide)
  have s21 : zp_f (za_n (zh τ (mB τ.2 21)) (.inl (0, 9, .inl (fun _ => 0)))) τ.2 10 24 (.ref (zh τ (mB τ.2 21)).2) = some (zh τ (mB τ.2 22)) := mk_s (k := 21) (by decide)
  have s22 : zp_f (za_n (zh τ (mB τ.2 22)) (.inl (0, 9, .inl (fun _ => 0)))) τ.2 10 25 (.ref (zh τ (mB τ.2 22)).2) = some (zh τ (mB τ.2 23)) := mk_s (k := 22) (by decide)
  have s23 : zp_f (za_n (zh τ (mB τ.2 23)) (.inl (0, 40, .inl (fun _ => 0)))) τ.2 10 26 (.ref (zh τ (mB τ.2 23)).2) = some (zh τ (mB τ.2 24)) := mk_s (k := 23) (by decide)
  have s24 : zp_f (za_n (zh τ (mB τ.2 24)) (.inl (0, 5, .inl (fun _ => 0)))) τ.2 10 27 (.ref (zh τ (mB τ.2 24)).2) = some (zh τ (mB τ.2 25)) := mk_s (k := 24) (by decide)
  have s25 : zp_f (za_n (zh τ (mB τ.2 25)) (.inl (0, 45, .inl (fun _ => 0)))) τ.2 10 28 (.ref (zh τ (mB τ.2 25)).2) = some (zh τ (mB τ.2 26)) := mk_s (k := 25) (by decide)
  have s26 : zp_f (za_n (zh τ (mB τ.2 26)) (.inl (0, 45, .inl (fun _ => 0)))) τ.2 10 29 (.ref (zh τ (mB τ.2 26)).2) = some (zh τ (mB τ.2 27)) := mk_s (k := 26) (by decide)
  have s27 : zp_f (za_n (zh τ (mB τ.2 27)) (.inl (0, 45, .inl (fun _ => 0)))) τ.2 10 30 (.ref (zh τ (mB τ.2 27)).2) = some (zh τ (mB τ.2 28)) := mk_s (k := 27) (by decide)
  have s28 : zp_f (za_n (zh τ (mB τ.2 28)) (.inl (0, 45, .inl (fun _ => 0)))) τ.2 10 31 (.ref (zh τ (mB τ.2 28)).2) = some (zh τ (mB τ.2 29)) := mk_s (k := 28) (by decide)
  unfold zf_Mo_init
  rw [e0, s0, zbs, s1, zbs, s2, zbs, s3, zbs, s4, zbs, s5, zbs, s6, zbs, s7, zbs, s8, zbs, s9, zbs, s10, zbs, s11, zbs, s12, zbs, s13, zbs, s14, zbs, s15, zbs, s16, zbs, s17, zbs, s18, zbs, s19, zbs, s20, zbs, s21, zbs, s22, zbs, s23, zbs, s24, zbs, s25, zbs, s26, zbs, s27, zbs, s28, zbs, mB_zr hτ, hy, zr_p0, zbs, zSi_0]
  exact mk_238 hfa 5 0 6 (by decide) (by decide)
