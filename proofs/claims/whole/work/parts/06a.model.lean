def zf_Mo_many_4 : Nat → Int32 → Int32 → Int32 → za_h → Option (Int32 × za_h)
  | 0, _, _, _, _ => none
  | n + 1, x0, x1, x2, σ =>
  if (nI 5) ≤ x2 then
  (some (x1, σ))
  else
  (zf_Mo_many_4 n x0 (x1 + ((x0 >>> (x2 &&& 31)) &&& (nI 1))) (x2 + nI 1) σ)

def zf_Mo_many (xy0 : Int32) (σ : za_h) : Option (Int32 × za_h) :=
  zf_Mo_many_4 6 xy0 (nI 0) (nI 0) σ
set_option maxRecDepth 100000 in
set_option maxHeartbeats 4000000 in
theorem zm_Mo_many {l : Launch} {D : va_G} {ca : Nat → ClassId} {n0 : Nat} {xy0 : Int32} {σ σ' : za_h} {r : Int32} (h : zf_Mo_many xy0 σ = some (r, σ')) : Met l zy_Mo_many (za_wy zy_Mo_many zc_Mo_many 3 (some .int)) { frames := 0, cells := 0, slots := 0, locals := 0 } (za_Pc D ca n0 [.int xy0] σ) (za_Qi D ca n0 r σ') 0 0 (za_A n0) := by
  refine za_met (by decide) (Nat.le_of_ble_eq_true rfl) ?_
  intro p e s m below meth c ls hx hb hml hr hlk hts hown hnm hK hI hl
  replace hown : s.vm.findClass zR_Mo = some m.cls := hown
  replace hl : lv_has ls 3 [(0, .int xy0)] := hl
  have B4 : ∀ n : Nat, ∀ (H : Heap) (locs : List Loc) (ls : Array Slot) (x0 : Int32) (x1 : Int32) (x2 : Int32) (σ : za_h), za_I D ca n0 s σ H locs → lv_has ls 3 [(0, .int x0), (1, .int x1), (2, .int x2)] → zf_Mo_many_4 n x0 x1 x2 σ = some (r, σ') → W p l e ({ frames := 0, cells := 0, slots := 0, locals := 0 }) s m ([.int xy0] : List Value).toArray below meth c H locs 0 0 (MQ below (za_Qi D ca n0 r σ') ([.int xy0] : List Value).toArray s 0 0 (za_A n0)) (F0 m 4 ls []) := by
    intro n
    induction n with
    | zero => intro H locs ls x0 x1 x2 σ hI hl h; rw [zf_Mo_many_4] at h; cases h
    | succ n ih =>
      intro H locs ls x0 x1 x2 σ hI hl h
      rw [zf_Mo_many_4] at h
      refine lv_iload_n hx hb zd_Mo_many_4 rfl (lv_at hl 2 rfl) ?_
      refine lv_iconst (v := nI 5) hx hb zd_Mo_many_5 (by decide) ?_
      refine lv_icmp_ge hx hb (tgt := 23) zd_Mo_many_6 (by decide) (fun c1 => ?_) (fun c1 => ?_)
      · replace h := zb_t c1 h
        refine lv_iload_n hx hb zd_Mo_many_23 rfl (lv_at hl 1 rfl) ?_
        exact za_iret hx hb hr hlk hI h (Nat.le_of_ble_eq_true rfl) (Nat.le_of_ble_eq_true rfl) zd_Mo_many_24
      · replace h := zb_f c1 h
        refine lv_iload_n hx hb zd_Mo_many_9 rfl (lv_at hl 1 rfl) ?_
        refine lv_iload_n hx hb zd_Mo_many_10 rfl (lv_at hl 0 rfl) ?_
        refine lv_iload_n hx hb zd_Mo_many_11 rfl (lv_at hl 2 rfl) ?_
        refine lv_ishr hx hb zd_Mo_many_12 ?_
        refine lv_iconst (v := nI 1) hx hb zd_Mo_many_13 (by decide) ?_
        refine lv_iand hx hb zd_Mo_many_14 ?_
        refine lv_iadd hx hb zd_Mo_many_15 ?_
        refine lv_istore_n (lv' := [(1, .int (x1 + ((x0 >>> (x2 &&& 31)) &&& (nI 1)))), (0, .int x0), (2, .int x2)]) hx hb zd_Mo_many_16 rfl hl (Nat.le_of_ble_eq_true rfl) rfl (fun ls hl => ?_)
        refine lv_iinc (k := 2) (v := (x2 + nI 1)) (lv' := [(2, .int (x2 + nI 1)), (1, .int (x1 + ((x0 >>> (x2 &&& 31)) &&& (nI 1)))), (0, .int x0)]) hx hb zd_Mo_many_17 hl rfl rfl (Nat.le_of_ble_eq_true rfl) rfl (fun ls hl => ?_)
        refine lv_goto hx hb (tgt := 4) zd_Mo_many_20 (by decide) ?_
        exact ih _ _ ls x0 (x1 + ((x0 >>> (x2 &&& 31)) &&& (nI 1))) (x2 + nI 1) σ hI (lv_sub hl [2, 1, 0] rfl) h
  unfold zf_Mo_many at h
  refine lv_iconst (v := nI 0) hx hb zd_Mo_many_0 (by decide) ?_
  refine lv_istore_n (lv' := [(1, .int (nI 0)), (0, .int xy0)]) hx hb zd_Mo_many_1 rfl hl (Nat.le_of_ble_eq_true rfl) rfl (fun ls hl => ?_)
  refine lv_iconst (v := nI 0) hx hb zd_Mo_many_2 (by decide) ?_
  refine lv_istore_n (lv' := [(2, .int (nI 0)), (1, .int (nI 0)), (0, .int xy0)]) hx hb zd_Mo_many_3 rfl hl (Nat.le_of_ble_eq_true rfl) rfl (fun ls hl => ?_)
  exact B4 6 _ _ ls xy0 (nI 0) (nI 0) σ hI (lv_sub hl [2, 1, 0] rfl) h

def zf_Mo_satisfies_66 (xs0 : Int32) (σ : za_h) : Option (Int32 × za_h) :=
  if xs0 = 0 ∨ xs0 = 1 then some (xs0, σ) else none

def zf_Mo_satisfies_51 (a0 : Nat) (x2 : Int32) (xs0 : Int32) (xs1 : Int32) (σ : za_h) : Option (Int32 × za_h) :=
  (zg_r σ a0 10 2).bind fun b2 =>
  (za_ld σ b2 0 x2).bind fun v3 =>
  if (xs0 + xs1) < v3 then
  (zf_Mo_satisfies_66 (nI 0) σ)
  else
  (zf_Mo_satisfies_66 (nI 1) σ)

def zf_Mo_satisfies_50 (a0 : Nat) (x2 : Int32) (xs0 : Int32) (σ : za_h) : Option (Int32 × za_h) :=
  zf_Mo_satisfies_51 a0 x2 xs0 (nI 0) σ

def zf_Mo_satisfies (ay0 : Nat) (xy1 : Int32) (xy2 : Int32) (σ : za_h) : Option (Int32 × za_h) :=
  (zg_r σ ay0 10 3).bind fun b2 =>
  (za_ld σ b2 0 xy2).bind fun v3 =>
  (zf_Mo_many (xy1 &&& v3) σ).bind fun (r5, σ6) =>
  (zg_r σ6 ay0 10 5).bind fun b9 =>
  (za_ld σ6 b9 0 xy2).bind fun v10 =>
  (zf_Mo_many (xy1 &&& v10) σ6).bind fun (r12, σ13) =>
  (zg_r σ13 ay0 10 4).bind fun b16 =>
  (za_ld σ13 b16 0 xy2).bind fun v17 =>
  if v17 ≤ 0 then
  (zf_Mo_satisfies_50 ay0 xy2 r5 σ13)
  else
  ((zg_r σ13 ay0 10 4).bind fun b21 =>
  (za_ld σ13 b21 0 xy2).bind fun v22 =>
  if r12 < v22 then
  (zf_Mo_satisfies_50 ay0 xy2 r5 σ13)
  else
  (zf_Mo_satisfies_51 ay0 xy2 r5 (nI 1) σ13))
set_option maxRecDepth 100000 in
set_option maxHeartbeats 4000000 in
theorem zm_Mo_satisfies {l : Launch} {D : va_G} {ca : Nat → ClassId} {n0 : Nat} {ay0 : Nat} {xy1 : Int32} {xy2 : Int32} {σ σ' : za_h} {r : Int32} (h : zf_Mo_satisfies ay0 xy1 xy2 σ = some (r, σ')) : Met l zy_Mo_satisfies (za_wy zy_Mo_satisfies zc_Mo_satisfies 5 (some .boolean)) { frames := 1, cells := 0, slots := 0, locals := 22 } (za_Pc D ca n0 [.ref ay0, .int xy1, .int xy2] σ) (za_Qi D ca n0 r σ') 0 0 (za_A n0) := by
  refine za_met (by decide) (Nat.le_of_ble_eq_true rfl) ?_
  intro p e s m below meth c ls hx hb hml hr hlk hts hown hnm hK hI hl
  replace hown : s.vm.findClass zR_Mo = some m.cls := hown
  replace hl : lv_has ls 5 [(0, .ref ay0), (1, .int xy1), (2, .int xy2)] := hl
  have B66 : ∀ (H : Heap) (locs : List Loc) (ls : Array Slot) (xs0 : Int32) (σ : za_h), za_I D ca n0 s σ H locs → lv_has ls 5 [] → zf_Mo_satisfies_66 xs0 σ = some (r, σ') → W p l e ({ frames := 1, cells := 0, slots := 0, locals := 22 }) s m ([.ref ay0, .int xy1, .int xy2] : List Value).toArray below meth c H locs 0 0 (MQ below (za_Qi D ca n0 r σ') ([.ref ay0, .int xy1, .int xy2] : List Value).toArray s 0 0 (za_A n0)) (F0 m 66 ls [.int xs0]) := by
    intro H locs ls xs0 σ hI hl h
    unfold zf_Mo_satisfies_66 at h
    obtain ⟨g1, h⟩ := zb_g h
    exact za_zret hx hb hr hlk hI g1 h (Nat.le_of_ble_eq_true rfl) (Nat.le_of_ble_eq_true rfl) zd_Mo_satisfies_66
  have B51 : ∀ (H : Heap) (locs : List Loc) (ls : Array Slot) (a0 : Nat) (x2 : Int32) (xs0 : Int32) (xs1 : Int32) (σ : za_h), za_I D ca n0 s σ H locs → lv_has ls 5 [(0, .ref a0), (2, .int x2)] → zf_Mo_satisfies_51 a0 x2 xs0 xs1 σ = some (r, σ') → W p l e ({ frames := 1, cells := 0, slots := 0, locals := 22 }) s m ([.ref ay0, .int xy1, .int xy2] : List Value).toArray below meth c H locs 0 0 (MQ below (za_Qi D ca n0 r σ') ([.ref ay0, .int xy1, .int xy2] : List Value).toArray s 0 0 (za_A n0)) (F0 m 51 ls [.int xs1, .int xs0]) := by
    intro H locs ls a0 x2 xs0 xs1 σ hI hl h
    unfold zf_Mo_satisfies_51 at h
    refine lv_iadd hx hb zd_Mo_satisfies_51 ?_
    refine lv_aload_n hx hb zd_Mo_satisfies_52 rfl (lv_at hl 0 rfl) ?_
    obtain ⟨b2, e1, h⟩ := zb_o h
    refine za_getr hx hb hts hown hK hI zl_Mo_7 e1 zd_Mo_satisfies_53 ?_
    refine lv_iload_n hx hb zd_Mo_satisfies_56 rfl (lv_at hl 1 rfl) ?_
    obtain ⟨v3, e4, h⟩ := zb_o h
    refine za_iald hx hb hK hI e4 zd_Mo_satisfies_57 ?_
    refine lv_icmp_lt hx hb (tgt := 65) zd_Mo_satisfies_58 (by decide) (fun c5 => ?_) (fun c5 => ?_)
    · replace h := zb_t c5 h
      refine lv_iconst (v := nI 0) hx hb zd_Mo_satisfies_65 (by decide) ?_
      exact B66 _ _ ls (nI 0) σ hI (lv_sub hl [] rfl) h
    · replace h := zb_f c5 h
      refine lv_iconst (v := nI 1) hx hb zd_Mo_satisfies_61 (by decide) ?_
      refine lv_goto hx hb (tgt := 66) zd_Mo_satisfies_62 (by decide) ?_
      exact B66 _ _ ls (nI 1) σ hI (lv_sub hl [] rfl) h
  have B50 : ∀ (H : Heap) (locs : List Loc) (ls : Array Slot) (a0 : Nat) (x2 : Int32) (xs0 : Int32) (σ : za_h), za_I D ca n0 s σ H locs → lv_has ls 5 [(0, .ref a0), (2, .int x2)] → zf_Mo_satisfies_50 a0 x2 xs0 σ = some (r, σ') → W p l e ({ frames := 1, cells := 0, slots := 0, locals := 22 }) s m ([.ref ay0, .int xy1, .int xy2] : List Value).toArray below meth c H locs 0 0 (MQ below (za_Qi D ca n0 r σ') ([.ref ay0, .int xy1, .int xy2] : List Value).toArray s 0 0 (za_A n0)) (F0 m 50 ls [.int xs0]) := by
    intro H locs ls a0 x2 xs0 σ hI hl h
    unfold zf_Mo_satisfies_50 at h
    refine lv_iconst (v := nI 0) hx hb zd_Mo_satisfies_50 (by decide) ?_
    exact B51 _ _ ls a0 x2 xs0 (nI 0) σ hI (lv_sub hl [0, 1] rfl) h
  unfold zf_Mo_satisfies at h
  refine lv_iload_n hx hb zd_Mo_satisfies_0 rfl (lv_at hl 1 rfl) ?_
  refine lv_aload_n hx hb zd_Mo_satisfies_1 rfl (lv_at hl 0 rfl) ?_
  obtain ⟨b2, e1, h⟩ := zb_o h
  refine za_getr hx hb hts hown hK hI zl_Mo_13 e1 zd_Mo_satisfies_2 ?_
  refine lv_iload_n hx hb zd_Mo_satisfies_5 rfl (lv_at hl 2 rfl) ?_
  obtain ⟨v3, e4, h⟩ := zb_o h
  refine za_iald hx hb hK hI e4 zd_Mo_satisfies_6 ?_
  refine lv_iand hx hb zd_Mo_satisfies_7 ?_
  obtain ⟨⟨r5, σ6⟩, e7, h⟩ := zb_o h
  refine za_calli (za_runS hx hb hml hown hts hK hI (zm_Mo_many e7) zj_Mo_109 ⟨rfl, rfl⟩ ⟨Nat.le_of_ble_eq_true rfl, Nat.le_of_ble_eq_true rfl⟩ rfl hl.1 rfl (Nat.le_of_ble_eq_true rfl) zd_Mo_satisfies_8 ⟨Nat.le_of_ble_eq_true rfl, Nat.le_of_ble_eq_true rfl⟩) hI (fun H locs hI => ?_)
  refine lv_istore_n (lv' := [(3, .int r5), (0, .ref ay0), (1, .int xy1), (2, .int xy2)]) hx hb zd_Mo_satisfies_11 rfl hl (Nat.le_of_ble_eq_true rfl) rfl (fun ls hl => ?_)
  refine lv_iload_n hx hb zd_Mo_satisfies_12 rfl (lv_at hl 2 rfl) ?_
  refine lv_aload_n hx hb zd_Mo_satisfies_13 rfl (lv_at hl 1 rfl) ?_
  obtain ⟨b9, e8, h⟩ := zb_o h
  refine za_getr hx hb hts hown hK hI zl_Mo_19 e8 zd_Mo_satisfies_14 ?_
  refine lv_iload_n hx hb zd_Mo_satisfies_17 rfl (lv_at hl 3 rfl) ?_
  obtain ⟨v10, e11, h⟩ := zb_o h
  refine za_iald hx hb hK hI e11 zd_Mo_satisfies_18 ?_
  refine lv_iand hx hb zd_Mo_satisfies_19 ?_
  obtain ⟨⟨r12, σ13⟩, e14, h⟩ := zb_o h
  refine za_calli (za_runS hx hb hml hown hts hK hI (zm_Mo_many e14) zj_Mo_109 ⟨rfl, rfl⟩ ⟨Nat.le_of_ble_eq_true rfl, Nat.le_of_ble_eq_true rfl⟩ rfl hl.1 rfl (Nat.le_of_ble_eq_true rfl) zd_Mo_satisfies_20 ⟨Nat.le_of_ble_eq_true rfl, Nat.le_of_ble_eq_true rfl⟩) hI (fun H locs hI => ?_)
  refine lv_istore (lv' := [(4, .int r12), (3, .int r5), (0, .ref ay0), (1, .int xy1), (2, .int xy2)]) hx hb zd_Mo_satisfies_23 hl (Nat.le_of_ble_eq_true rfl) rfl (fun ls hl => ?_)
  refine lv_iload_n hx hb zd_Mo_satisfies_25 rfl (lv_at hl 1 rfl) ?_
  refine lv_aload_n hx hb zd_Mo_satisfies_26 rfl (lv_at hl 2 rfl) ?_
  obtain ⟨b16, e15, h⟩ := zb_o h
  refine za_getr hx hb hts hown hK hI zl_Mo_16 e15 zd_Mo_satisfies_27 ?_
  refine lv_iload_n hx hb zd_Mo_satisfies_30 rfl (lv_at hl 4 rfl) ?_
  obtain ⟨v17, e18, h⟩ := zb_o h
  refine za_iald hx hb hK hI e18 zd_Mo_satisfies_31 ?_
  refine lv_if_le hx hb (tgt := 50) zd_Mo_satisfies_32 (by decide) (fun c19 => ?_) (fun c19 => ?_)
  · replace h := zb_t c19 h
    exact B50 _ _ ls ay0 xy2 r5 σ13 hI (lv_sub hl [2, 4] rfl) h
  · replace h := zb_f c19 h
    refine lv_iload hx hb zd_Mo_satisfies_35 (lv_at hl 0 rfl) ?_
    refine lv_aload_n hx hb zd_Mo_satisfies_37 rfl (lv_at hl 2 rfl) ?_
    obtain ⟨b21, e20, h⟩ := zb_o h
    refine za_getr hx hb hts hown hK hI zl_Mo_16 e20 zd_Mo_satisfies_38 ?_
    refine lv_iload_n hx hb zd_Mo_satisfies_41 rfl (lv_at hl 4 rfl) ?_
    obtain ⟨v22, e23, h⟩ := zb_o h
    refine za_iald hx hb hK hI e23 zd_Mo_satisfies_42 ?_
    refine lv_icmp_lt hx hb (tgt := 50) zd_Mo_satisfies_43 (by decide) (fun c24 => ?_) (fun c24 => ?_)
    · replace h := zb_t c24 h
      exact B50 _ _ ls ay0 xy2 r5 σ13 hI (lv_sub hl [2, 4] rfl) h
    · replace h := zb_f c24 h
      refine lv_iconst (v := nI 1) hx hb zd_Mo_satisfies_46 (by decide) ?_
      refine lv_goto hx hb (tgt := 51) zd_Mo_satisfies_47 (by decide) ?_
      exact B51 _ _ ls ay0 xy2 r5 (nI 1) σ13 hI (lv_sub hl [2, 4] rfl) h

def zf_Mo_table_47 (k2 : Nat → Int32 → za_h → Option (Unit × za_h)) (k17 : Nat → Int32 → Int32 → za_h → Option (Unit × za_h)) (a0 : Nat) (x1 : Int32) (x2 : Int32) (σ : za_h) : Option (Unit × za_h) :=
  k17 a0 x1 (x2 + nI 1) σ

def zf_Mo_table_17 (k2 : Nat → Int32 → za_h → Option (Unit × za_h)) : Nat → Nat → Int32 → Int32 → za_h → Option (Unit × za_h)
  | 0, _, _, _, _ => none
  | n + 1, a0, x1, x2, σ =>
  if (nI 5) ≤ x2 then
  (k2 a0 (x1 + nI 1) σ)
  else
  (if ((x1 >>> (x2 &&& 31)) &&& (nI 1)) = (nI 1) then
  ((zg_c σ a0 10).bind fun _ =>
  (zf_Mo_satisfies a0 x1 x2 σ).bind fun (r4, σ5) =>
  if r4 = 0 then
  ((zg_r σ5 a0 10 6).bind fun b9 =>
  (za_st σ5 b9 1 x1 (vp_nar .boolean (nI 0))).bind fun σ10 =>
  zf_Mo_table_47 k2 (zf_Mo_table_17 k2 n) a0 x1 x2 σ10)
  else
  (zf_Mo_table_47 k2 (zf_Mo_table_17 k2 n) a0 x1 x2 σ5))
  else
  (zf_Mo_table_47 k2 (zf_Mo_table_17 k2 n) a0 x1 x2 σ))

def zf_Mo_table_2 : Nat → Nat → Int32 → za_h → Option (Unit × za_h)
  | 0, _, _, _ => none
  | n + 1, a0, x1, σ =>
  if (nI 32) ≤ x1 then
  (some ((), σ))
  else
  ((zg_r σ a0 10 6).bind fun b3 =>
  (za_st σ b3 1 x1 (vp_nar .boolean (nI 1))).bind fun σ4 =>
  zf_Mo_table_17 (zf_Mo_table_2 n) 33 a0 x1 (nI 0) σ4)

def zf_Mo_table (ay0 : Nat) (σ : za_h) : Option (Unit × za_h) :=
  zf_Mo_table_2 33 ay0 (nI 0) σ
set_option maxRecDepth 100000 in
set_option maxHeartbeats 4000000 in
theorem zm_Mo_table {l : Launch} {D : va_G} {ca : Nat → ClassId} {n0 : Nat} {ay0 : Nat} {σ σ' : za_h} {r : Unit} (h : zf_Mo_table ay0 σ = some (r, σ')) : Met l zy_Mo_table (za_wy zy_Mo_table zc_Mo_table 3 none) { frames := 2, cells := 0, slots := 0, locals := 46 } (za_Pc D ca n0 [.ref ay0] σ) (za_Qv D ca n0 r σ') 0 0 (za_A n0) := by
  refine za_met (by decide) (Nat.le_of_ble_eq_true rfl) ?_
  intro p e s m below meth c ls hx hb hml hr hlk hts hown hnm hK hI hl
  replace hown : s.vm.findClass zR_Mo = some m.cls := hown
  replace hl : lv_has ls 3 [(0, .ref ay0)] := hl
  have B47 : ∀ (k2 : Nat → Int32 → za_h → Option (Unit × za_h)), (∀ (H : Heap) (locs : List Loc) (ls : Array Slot) (a0 : Nat) (x1 : Int32) (σ : za_h), za_I D ca n0 s σ H locs → lv_has ls 3 [(0, .ref a0), (1, .int x1)] → k2 a0 x1 σ = some (r, σ') → W p l e ({ frames := 2, cells := 0, slots := 0, locals := 46 }) s m ([.ref ay0] : List Value).toArray below meth c H locs 0 0 (MQ below (za_Qv D ca n0 r σ') ([.ref ay0] : List Value).toArray s 0 0 (za_A n0)) (F0 m 2 ls [])) → ∀ (k17 : Nat → Int32 → Int32 → za_h → Option (Unit × za_h)), (∀ (H : Heap) (locs : List Loc) (ls : Array Slot) (a0 : Nat) (x1 : Int32) (x2 : Int32) (σ : za_h), za_I D ca n0 s σ H locs → lv_has ls 3 [(0, .ref a0), (1, .int x1), (2, .int x2)] → k17 a0 x1 x2 σ = some (r, σ') → W p l e ({ frames := 2, cells := 0, slots := 0, locals := 46 }) s m ([.ref ay0] : List Value).toArray below meth c H locs 0 0 (MQ below (za_Qv D ca n0 r σ') ([.ref ay0] : List Value).toArray s 0 0 (za_A n0)) (F0 m 17 ls [])) → ∀ (H : Heap) (locs : List Loc) (ls : Array Slot) (a0 : Nat) (x1 : Int32) (x2 : Int32) (σ : za_h), za_I D ca n0 s σ H locs → lv_has ls 3 [(0, .ref a0), (1, .int x1), (2, .int x2)] → zf_Mo_table_47 k2 k17 a0 x1 x2 σ = some (r, σ') → W p l e ({ frames := 2, cells := 0, slots := 0, locals := 46 }) s m ([.ref ay0] : List Value).toArray below meth c H locs 0 0 (MQ below (za_Qv D ca n0 r σ') ([.ref ay0] : List Value).toArray s 0 0 (za_A n0)) (F0 m 47 ls []) := by
    intro k2 hk2 k17 hk17 H locs ls a0 x1 x2 σ hI hl h
    unfold zf_Mo_table_47 at h
    refine lv_iinc (k := 2) (v := (x2 + nI 1)) (lv' := [(2, .int (x2 + nI 1)), (0, .ref a0), (1, .int x1)]) hx hb zd_Mo_table_47 hl rfl rfl (Nat.le_of_ble_eq_true rfl) rfl (fun ls hl => ?_)
    refine lv_goto hx hb (tgt := 17) zd_Mo_table_50 (by decide) ?_
    exact hk17 _ _ ls a0 x1 (x2 + nI 1) σ hI (lv_sub hl [1, 2, 0] rfl) h
  have B17 : ∀ (k2 : Nat → Int32 → za_h → Option (Unit × za_h)), (∀ (H : Heap) (locs : List Loc) (ls : Array Slot) (a0 : Nat) (x1 : Int32) (σ : za_h), za_I D ca n0 s σ H locs → lv_has ls 3 [(0, .ref a0), (1, .int x1)] → k2 a0 x1 σ = some (r, σ') → W p l e ({ frames := 2, cells := 0, slots := 0, locals := 46 }) s m ([.ref ay0] : List Value).toArray below meth c H locs 0 0 (MQ below (za_Qv D ca n0 r σ') ([.ref ay0] : List Value).toArray s 0 0 (za_A n0)) (F0 m 2 ls [])) → ∀ n : Nat, ∀ (H : Heap) (locs : List Loc) (ls : Array Slot) (a0 : Nat) (x1 : Int32) (x2 : Int32) (σ : za_h), za_I D ca n0 s σ H locs → lv_has ls 3 [(0, .ref a0), (1, .int x1), (2, .int x2)] → zf_Mo_table_17 k2 n a0 x1 x2 σ = some (r, σ') → W p l e ({ frames := 2, cells := 0, slots := 0, locals := 46 }) s m ([.ref ay0] : List Value).toArray below meth c H locs 0 0 (MQ below (za_Qv D ca n0 r σ') ([.ref ay0] : List Value).toArray s 0 0 (za_A n0)) (F0 m 17 ls []) := by
    intro k2 hk2 n
    induction n with
    | zero => intro H locs ls a0 x1 x2 σ hI hl h; rw [zf_Mo_table_17] at h; cases h
    | succ n ih =>
      intro H locs ls a0 x1 x2 σ hI hl h
      rw [zf_Mo_table_17] at h
      refine lv_iload_n hx hb zd_Mo_table_17 rfl (lv_at hl 2 rfl) ?_
      refine lv_iconst (v := nI 5) hx hb zd_Mo_table_18 (by decide) ?_
      refine lv_icmp_ge hx hb (tgt := 53) zd_Mo_table_19 (by decide) (fun c1 => ?_) (fun c1 => ?_)
      · replace h := zb_t c1 h
        refine lv_iinc (k := 1) (v := (x1 + nI 1)) (lv' := [(1, .int (x1 + nI 1)), (0, .ref a0), (2, .int x2)]) hx hb zd_Mo_table_53 hl rfl rfl (Nat.le_of_ble_eq_true rfl) rfl (fun ls hl => ?_)
        refine lv_goto hx hb (tgt := 2) zd_Mo_table_56 (by decide) ?_
        exact hk2 _ _ ls a0 (x1 + nI 1) σ hI (lv_sub hl [1, 0] rfl) h
      · replace h := zb_f c1 h
        refine lv_iload_n hx hb zd_Mo_table_22 rfl (lv_at hl 1 rfl) ?_
        refine lv_iload_n hx hb zd_Mo_table_23 rfl (lv_at hl 2 rfl) ?_
        refine lv_ishr hx hb zd_Mo_table_24 ?_
        refine lv_iconst (v := nI 1) hx hb zd_Mo_table_25 (by decide) ?_
        refine lv_iand hx hb zd_Mo_table_26 ?_
        refine lv_iconst (v := nI 1) hx hb zd_Mo_table_27 (by decide) ?_
        refine lv_icmp_ne hx hb (tgt := 47) zd_Mo_table_28 (by decide) (fun c2 => ?_) (fun c2 => ?_)
        · replace h := zb_f c2 h
          exact B47 _ hk2 _ ih _ _ ls a0 x1 x2 σ hI (lv_sub hl [0, 1, 2] rfl) h
        · replace h := zb_t c2 h
          refine lv_aload_n hx hb zd_Mo_table_31 rfl (lv_at hl 0 rfl) ?_
          refine lv_iload_n hx hb zd_Mo_table_32 rfl (lv_at hl 1 rfl) ?_
          refine lv_iload_n hx hb zd_Mo_table_33 rfl (lv_at hl 2 rfl) ?_
          obtain ⟨_, g3, h⟩ := zb_o h
          obtain ⟨⟨r4, σ5⟩, e6, h⟩ := zb_o h
          refine za_calli (za_runV hx hb hml hown hts hK hI g3 (zm_Mo_satisfies e6) zj_Mo_113 ⟨rfl, rfl⟩ ⟨Nat.le_of_ble_eq_true rfl, Nat.le_of_ble_eq_true rfl⟩ rfl hl.1 rfl (Nat.le_of_ble_eq_true rfl) zd_Mo_table_34 ⟨Nat.le_of_ble_eq_true rfl, Nat.le_of_ble_eq_true rfl⟩) hI (fun H locs hI => ?_)
          refine lv_if_ne hx hb (tgt := 47) zd_Mo_table_37 (by decide) (fun c7 => ?_) (fun c7 => ?_)
          · replace h := zb_f c7 h
            exact B47 _ hk2 _ ih _ _ ls a0 x1 x2 σ5 hI (lv_sub hl [0, 1, 2] rfl) h
          · replace h := zb_t c7 h
            refine lv_aload_n hx hb zd_Mo_table_40 rfl (lv_at hl 0 rfl) ?_
            obtain ⟨b9, e8, h⟩ := zb_o h
            refine za_getr hx hb hts hown hK hI zl_Mo_22 e8 zd_Mo_table_41 ?_
            refine lv_iload_n hx hb zd_Mo_table_44 rfl (lv_at hl 1 rfl) ?_
            refine lv_iconst (v := nI 0) hx hb zd_Mo_table_45 (by decide) ?_
            obtain ⟨σ10, e11, h⟩ := zb_o h
            refine za_zast hx hb hK hI e11 zd_Mo_table_46 (fun H locs hI => ?_)
            exact B47 _ hk2 _ ih _ _ ls a0 x1 x2 σ10 hI (lv_sub hl [0, 1, 2] rfl) h
  have B2 : ∀ n : Nat, ∀ (H : Heap) (locs : List Loc) (ls : Array Slot) (a0 : Nat) (x1 : Int32) (σ : za_h), za_I D ca n0 s σ H locs → lv_has ls 3 [(0, .ref a0), (1, .int x1)] → zf_Mo_table_2 n a0 x1 σ = some (r, σ') → W p l e ({ frames := 2, cells := 0, slots := 0, locals := 46 }) s m ([.ref ay0] : List Value).toArray below meth c H locs 0 0 (MQ below (za_Qv D ca n0 r σ') ([.ref ay0] : List Value).toArray s 0 0 (za_A n0)) (F0 m 2 ls []) := by
    intro n
    induction n with
    | zero => intro H locs ls a0 x1 σ hI hl h; rw [zf_Mo_table_2] at h; cases h
    | succ n ih =>
      intro H locs ls a0 x1 σ hI hl h
      rw [zf_Mo_table_2] at h
      refine lv_iload_n hx hb zd_Mo_table_2 rfl (lv_at hl 1 rfl) ?_
      refine lv_bipush (v := nI 32) hx hb zd_Mo_table_3 (by decide) ?_
      refine lv_icmp_ge hx hb (tgt := 59) zd_Mo_table_5 (by decide) (fun c1 => ?_) (fun c1 => ?_)
      · replace h := zb_t c1 h
        exact za_vret hx hb hr hlk hI h (Nat.le_of_ble_eq_true rfl) (Nat.le_of_ble_eq_true rfl) zd_Mo_table_59
      · replace h := zb_f c1 h
        refine lv_aload_n hx hb zd_Mo_table_8 rfl (lv_at hl 0 rfl) ?_
        obtain ⟨b3, e2, h⟩ := zb_o h
        refine za_getr hx hb hts hown hK hI zl_Mo_22 e2 zd_Mo_table_9 ?_
        refine lv_iload_n hx hb zd_Mo_table_12 rfl (lv_at hl 1 rfl) ?_
        refine lv_iconst (v := nI 1) hx hb zd_Mo_table_13 (by decide) ?_
        obtain ⟨σ4, e5, h⟩ := zb_o h
        refine za_zast hx hb hK hI e5 zd_Mo_table_14 (fun H locs hI => ?_)
        refine lv_iconst (v := nI 0) hx hb zd_Mo_table_15 (by decide) ?_
        refine lv_istore_n (lv' := [(2, .int (nI 0)), (0, .ref a0), (1, .int x1)]) hx hb zd_Mo_table_16 rfl hl (Nat.le_of_ble_eq_true rfl) rfl (fun ls hl => ?_)
        exact B17 _ ih 33 _ _ ls a0 x1 (nI 0) σ4 hI (lv_sub hl [1, 2, 0] rfl) h
  unfold zf_Mo_table at h
  refine lv_iconst (v := nI 0) hx hb zd_Mo_table_0 (by decide) ?_
  refine lv_istore_n (lv' := [(1, .int (nI 0)), (0, .ref ay0)]) hx hb zd_Mo_table_1 rfl hl (Nat.le_of_ble_eq_true rfl) rfl (fun ls hl => ?_)
  exact B2 33 _ _ ls ay0 (nI 0) σ hI (lv_sub hl [1, 0] rfl) h

def zf_Mo_init_260 (k238 : Nat → Int32 → za_h → Option (Unit × za_h)) : Nat → Nat → Int32 → Int32 → za_h → Option (Unit × za_h)
  | 0, _, _, _, _ => none
  | n + 1, a0, x2, x3, σ =>
  if (nI 4) ≤ x3 then
  (k238 a0 (x2 + nI 1) σ)
  else
  ((zg_r σ a0 10 26).bind fun b3 =>
  (za_st σ b3 0 (((nI 8) * x2) + ((nI 2) * x3)) (nI 100)).bind fun σ4 =>
  (zg_r σ4 a0 10 26).bind fun b7 =>
  (za_st σ4 b7 0 ((((nI 8) * x2) + ((nI 2) * x3)) + (nI 1)) (nI 20)).bind fun σ8 =>
  zf_Mo_init_260 k238 n a0 x2 (x3 + nI 1) σ8)

def zf_Mo_init_238 : Nat → Nat → Int32 → za_h → Option (Unit × za_h)
  | 0, _, _, _ => none
  | n + 1, a0, x2, σ =>
  if (nI 5) ≤ x2 then
  ((zg_c σ a0 10).bind fun _ =>
  (zf_Mo_table a0 σ).bind fun (_, σ4) =>
  some ((), σ4))
  else
  ((zg_r σ a0 10 2).bind fun b7 =>
  (za_st σ b7 0 x2 (nI 4)).bind fun σ8 =>
  (zg_r σ8 a0 10 3).bind fun b11 =>
  (za_st σ8 b11 0 x2 (nI 31)).bind fun σ12 =>
  zf_Mo_init_260 (zf_Mo_init_238 n) 6 a0 x2 (nI 0) σ12)

def zf_Mo_init (ay0 : Nat) (xy1 : Int32) (σ : za_h) : Option (Unit × za_h) :=
  (zp_f (za_n σ (.inl (0, 5, .inl (fun _ => 0)))) ay0 10 2 (.ref σ.2)).bind fun σ2 =>
  (zp_f (za_n σ2 (.inl (0, 5, .inl (fun _ => 0)))) ay0 10 3 (.ref σ2.2)).bind fun σ4 =>
  (zp_f (za_n σ4 (.inl (0, 5, .inl (fun _ => 0)))) ay0 10 4 (.ref σ4.2)).bind fun σ6 =>
  (zp_f (za_n σ6 (.inl (0, 5, .inl (fun _ => 0)))) ay0 10 5 (.ref σ6.2)).bind fun σ8 =>
  (zp_f (za_n σ8 (.inl (1, 32, .inl (fun _ => 0)))) ay0 10 6 (.ref σ8.2)).bind fun σ10 =>
  (zp_f (za_n σ10 (.inl (0, 5, .inl (fun _ => 0)))) ay0 10 7 (.ref σ10.2)).bind fun σ12 =>
  (zp_f (za_n σ12 (.inl (0, 5, .inl (fun _ => 0)))) ay0 10 8 (.ref σ12.2)).bind fun σ14 =>
  (zp_f (za_n σ14 (.inl (0, 5, .inl (fun _ => 0)))) ay0 10 9 (.ref σ14.2)).bind fun σ16 =>
  (zp_f (za_n σ16 (.inl (0, 5, .inl (fun _ => 0)))) ay0 10 10 (.ref σ16.2)).bind fun σ18 =>
  (zp_f (za_n σ18 (.inl (0, 5, .inl (fun _ => 0)))) ay0 10 11 (.ref σ18.2)).bind fun σ20 =>
  (zp_f (za_n σ20 (.inl (0, 135, .inl (fun _ => 0)))) ay0 10 12 (.ref σ20.2)).bind fun σ22 =>
  (zp_f (za_n σ22 (.inl (0, 150, .inl (fun _ => 0)))) ay0 10 13 (.ref σ22.2)).bind fun σ24 =>
  (zp_f (za_n σ24 (.inl (0, 15, .inl (fun _ => 0)))) ay0 10 14 (.ref σ24.2)).bind fun σ26 =>
  (zp_f (za_n σ26 (.inl (0, 5, .inl (fun _ => 0)))) ay0 10 15 (.ref σ26.2)).bind fun σ28 =>
  (zp_f (za_n σ28 (.inl (0, 120, .inl (fun _ => 0)))) ay0 10 17 (.ref σ28.2)).bind fun σ30 =>
  (zp_f (za_n σ30 (.inl (0, 120, .inl (fun _ => 0)))) ay0 10 18 (.ref σ30.2)).bind fun σ32 =>
  (zp_f (za_n σ32 (.inl (0, 720, .inl (fun _ => 0)))) ay0 10 19 (.ref σ32.2)).bind fun σ34 =>
  (zp_f (za_n σ34 (.inl (1, 9, .inl (fun _ => 0)))) ay0 10 20 (.ref σ34.2)).bind fun σ36 =>
  (zp_f (za_n σ36 (.inl (0, 9, .inl (fun _ => 0)))) ay0 10 21 (.ref σ36.2)).bind fun σ38 =>
  (zp_f (za_n σ38 (.inl (0, 9, .inl (fun _ => 0)))) ay0 10 22 (.ref σ38.2)).bind fun σ40 =>
  (zp_f (za_n σ40 (.inl (0, 9, .inl (fun _ => 0)))) ay0 10 23 (.ref σ40.2)).bind fun σ42 =>
  (zp_f (za_n σ42 (.inl (0, 9, .inl (fun _ => 0)))) ay0 10 24 (.ref σ42.2)).bind fun σ44 =>
  (zp_f (za_n σ44 (.inl (0, 9, .inl (fun _ => 0)))) ay0 10 25 (.ref σ44.2)).bind fun σ46 =>
  (zp_f (za_n σ46 (.inl (0, 40, .inl (fun _ => 0)))) ay0 10 26 (.ref σ46.2)).bind fun σ48 =>
  (zp_f (za_n σ48 (.inl (0, 5, .inl (fun _ => 0)))) ay0 10 27 (.ref σ48.2)).bind fun σ50 =>
  (zp_f (za_n σ50 (.inl (0, 45, .inl (fun _ => 0)))) ay0 10 28 (.ref σ50.2)).bind fun σ52 =>
  (zp_f (za_n σ52 (.inl (0, 45, .inl (fun _ => 0)))) ay0 10 29 (.ref σ52.2)).bind fun σ54 =>
  (zp_f (za_n σ54 (.inl (0, 45, .inl (fun _ => 0)))) ay0 10 30 (.ref σ54.2)).bind fun σ56 =>
  (zp_f (za_n σ56 (.inl (0, 45, .inl (fun _ => 0)))) ay0 10 31 (.ref σ56.2)).bind fun σ58 =>
  (zp_f σ58 ay0 10 0 (.int (xy1 &&& (nI 31)))).bind fun σ60 =>
  zf_Mo_init_238 6 ay0 (nI 0) σ60
set_option maxRecDepth 100000 in
set_option maxHeartbeats 4000000 in
theorem zm_Mo_init {l : Launch} {D : va_G} {ca : Nat → ClassId} {n0 : Nat} {ay0 : Nat} {xy1 : Int32} {σ σ' : za_h} {r : Unit} (h : zf_Mo_init ay0 xy1 σ = some (r, σ')) : Met l zy_Mo_init (za_wy zy_Mo_init zc_Mo_init 4 none) { frames := 3, cells := 29, slots := 1621, locals := 68 } (za_Pc D ca n0 [.ref ay0, .int xy1] σ) (za_Qv D ca n0 r σ') 29 1621 (za_A n0) := by
  refine za_met (by decide) (Nat.le_of_ble_eq_true rfl) ?_
  intro p e s m below meth c ls hx hb hml hr hlk hts hown hnm hK hI hl
  replace hown : s.vm.findClass zR_Mo = some m.cls := hown
  replace hl : lv_has ls 4 [(0, .ref ay0), (1, .int xy1)] := hl
  have B260 : ∀ (k238 : Nat → Int32 → za_h → Option (Unit × za_h)), (∀ (H : Heap) (locs : List Loc) (ls : Array Slot) (a0 : Nat) (x2 : Int32) (σ : za_h), za_I D ca n0 s σ H locs → lv_has ls 4 [(0, .ref a0), (2, .int x2)] → k238 a0 x2 σ = some (r, σ') → W p l e ({ frames := 3, cells := 29, slots := 1621, locals := 68 }) s m ([.ref ay0, .int xy1] : List Value).toArray below meth c H locs 29 1621 (MQ below (za_Qv D ca n0 r σ') ([.ref ay0, .int xy1] : List Value).toArray s 29 1621 (za_A n0)) (F0 m 238 ls [])) → ∀ n : Nat, ∀ (H : Heap) (locs : List Loc) (ls : Array Slot) (a0 : Nat) (x2 : Int32) (x3 : Int32) (σ : za_h), za_I D ca n0 s σ H locs → lv_has ls 4 [(0, .ref a0), (2, .int x2), (3, .int x3)] → zf_Mo_init_260 k238 n a0 x2 x3 σ = some (r, σ') → W p l e ({ frames := 3, cells := 29, slots := 1621, locals := 68 }) s m ([.ref ay0, .int xy1] : List Value).toArray below meth c H locs 29 1621 (MQ below (za_Qv D ca n0 r σ') ([.ref ay0, .int xy1] : List Value).toArray s 29 1621 (za_A n0)) (F0 m 260 ls []) := by
    intro k238 hk238 n
    induction n with
    | zero => intro H locs ls a0 x2 x3 σ hI hl h; rw [zf_Mo_init_260] at h; cases h
    | succ n ih =>
      intro H locs ls a0 x2 x3 σ hI hl h
      rw [zf_Mo_init_260] at h
      refine lv_iload_n hx hb zd_Mo_init_260 rfl (lv_at hl 2 rfl) ?_
      refine lv_iconst (v := nI 4) hx hb zd_Mo_init_261 (by decide) ?_
      refine lv_icmp_ge hx hb (tgt := 303) zd_Mo_init_262 (by decide) (fun c1 => ?_) (fun c1 => ?_)
      · replace h := zb_t c1 h
        refine lv_iinc (k := 1) (v := (x2 + nI 1)) (lv' := [(2, .int (x2 + nI 1)), (0, .ref a0), (3, .int x3)]) hx hb zd_Mo_init_303 hl rfl rfl (Nat.le_of_ble_eq_true rfl) rfl (fun ls hl => ?_)
        refine lv_goto hx hb (tgt := 238) zd_Mo_init_306 (by decide) ?_
        exact hk238 _ _ ls a0 (x2 + nI 1) σ hI (lv_sub hl [1, 0] rfl) h
      · replace h := zb_f c1 h
        refine lv_aload_n hx hb zd_Mo_init_265 rfl (lv_at hl 0 rfl) ?_
        obtain ⟨b3, e2, h⟩ := zb_o h
        refine za_getr hx hb hts hown hK hI zl_Mo_80 e2 zd_Mo_init_266 ?_
        refine lv_bipush (v := nI 8) hx hb zd_Mo_init_269 (by decide) ?_
        refine lv_iload_n hx hb zd_Mo_init_271 rfl (lv_at hl 1 rfl) ?_
        refine lv_imul hx hb zd_Mo_init_272 ?_
        refine lv_iconst (v := nI 2) hx hb zd_Mo_init_273 (by decide) ?_
        refine lv_iload_n hx hb zd_Mo_init_274 rfl (lv_at hl 2 rfl) ?_
        refine lv_imul hx hb zd_Mo_init_275 ?_
        refine lv_iadd hx hb zd_Mo_init_276 ?_
        refine lv_bipush (v := nI 100) hx hb zd_Mo_init_277 (by decide) ?_
        obtain ⟨σ4, e5, h⟩ := zb_o h
        refine za_iast hx hb hK hI e5 zd_Mo_init_279 (fun H locs hI => ?_)
        refine lv_aload_n hx hb zd_Mo_init_280 rfl (lv_at hl 0 rfl) ?_
        obtain ⟨b7, e6, h⟩ := zb_o h
        refine za_getr hx hb hts hown hK hI zl_Mo_80 e6 zd_Mo_init_281 ?_
        refine lv_bipush (v := nI 8) hx hb zd_Mo_init_284 (by decide) ?_
        refine lv_iload_n hx hb zd_Mo_init_286 rfl (lv_at hl 1 rfl) ?_
        refine lv_imul hx hb zd_Mo_init_287 ?_
        refine lv_iconst (v := nI 2) hx hb zd_Mo_init_288 (by decide) ?_
        refine lv_iload_n hx hb zd_Mo_init_289 rfl (lv_at hl 2 rfl) ?_
        refine lv_imul hx hb zd_Mo_init_290 ?_
        refine lv_iadd hx hb zd_Mo_init_291 ?_
        refine lv_iconst (v := nI 1) hx hb zd_Mo_init_292 (by decide) ?_
        refine lv_iadd hx hb zd_Mo_init_293 ?_
        refine lv_bipush (v := nI 20) hx hb zd_Mo_init_294 (by decide) ?_
        obtain ⟨σ8, e9, h⟩ := zb_o h
        refine za_iast hx hb hK hI e9 zd_Mo_init_296 (fun H locs hI => ?_)
        refine lv_iinc (k := 2) (v := (x3 + nI 1)) (lv' := [(3, .int (x3 + nI 1)), (0, .ref a0), (2, .int x2)]) hx hb zd_Mo_init_297 hl rfl rfl (Nat.le_of_ble_eq_true rfl) rfl (fun ls hl => ?_)
        refine lv_goto hx hb (tgt := 260) zd_Mo_init_300 (by decide) ?_
        exact ih _ _ ls a0 x2 (x3 + nI 1) σ8 hI (lv_sub hl [1, 2, 0] rfl) h
  have B238 : ∀ n : Nat, ∀ (H : Heap) (locs : List Loc) (ls : Array Slot) (a0 : Nat) (x2 : Int32) (σ : za_h), za_I D ca n0 s σ H locs → lv_has ls 4 [(0, .ref a0), (2, .int x2)] → zf_Mo_init_238 n a0 x2 σ = some (r, σ') → W p l e ({ frames := 3, cells := 29, slots := 1621, locals := 68 }) s m ([.ref ay0, .int xy1] : List Value).toArray below meth c H locs 29 1621 (MQ below (za_Qv D ca n0 r σ') ([.ref ay0, .int xy1] : List Value).toArray s 29 1621 (za_A n0)) (F0 m 238 ls []) := by
    intro n
    induction n with
    | zero => intro H locs ls a0 x2 σ hI hl h; rw [zf_Mo_init_238] at h; cases h
    | succ n ih =>
      intro H locs ls a0 x2 σ hI hl h
      rw [zf_Mo_init_238] at h
      refine lv_iload_n hx hb zd_Mo_init_238 rfl (lv_at hl 1 rfl) ?_
      refine lv_iconst (v := nI 5) hx hb zd_Mo_init_239 (by decide) ?_
      refine lv_icmp_ge hx hb (tgt := 309) zd_Mo_init_240 (by decide) (fun c1 => ?_) (fun c1 => ?_)
      · replace h := zb_t c1 h
        refine lv_aload_n hx hb zd_Mo_init_309 rfl (lv_at hl 0 rfl) ?_
        obtain ⟨_, g2, h⟩ := zb_o h
        obtain ⟨⟨r3, σ4⟩, e5, h⟩ := zb_o h
        refine za_callv (za_runV hx hb hml hown hts hK hI g2 (zm_Mo_table e5) zj_Mo_102 ⟨rfl, rfl⟩ ⟨Nat.le_of_ble_eq_true rfl, Nat.le_of_ble_eq_true rfl⟩ rfl hl.1 rfl (Nat.le_of_ble_eq_true rfl) zd_Mo_init_310 ⟨Nat.le_of_ble_eq_true rfl, Nat.le_of_ble_eq_true rfl⟩) hI (fun H locs hI => ?_)
        exact za_vret hx hb hr hlk hI h (Nat.le_of_ble_eq_true rfl) (Nat.le_of_ble_eq_true rfl) zd_Mo_init_313
      · replace h := zb_f c1 h
        refine lv_aload_n hx hb zd_Mo_init_243 rfl (lv_at hl 0 rfl) ?_
        obtain ⟨b7, e6, h⟩ := zb_o h
        refine za_getr hx hb hts hown hK hI zl_Mo_7 e6 zd_Mo_init_244 ?_
        refine lv_iload_n hx hb zd_Mo_init_247 rfl (lv_at hl 1 rfl) ?_
        refine lv_iconst (v := nI 4) hx hb zd_Mo_init_248 (by decide) ?_
        obtain ⟨σ8, e9, h⟩ := zb_o h
        refine za_iast hx hb hK hI e9 zd_Mo_init_249 (fun H locs hI => ?_)
        refine lv_aload_n hx hb zd_Mo_init_250 rfl (lv_at hl 0 rfl) ?_
        obtain ⟨b11, e10, h⟩ := zb_o h
        refine za_getr hx hb hts hown hK hI zl_Mo_13 e10 zd_Mo_init_251 ?_
        refine lv_iload_n hx hb zd_Mo_init_254 rfl (lv_at hl 1 rfl) ?_
        refine lv_bipush (v := nI 31) hx hb zd_Mo_init_255 (by decide) ?_
        obtain ⟨σ12, e13, h⟩ := zb_o h
        refine za_iast hx hb hK hI e13 zd_Mo_init_257 (fun H locs hI => ?_)
        refine lv_iconst (v := nI 0) hx hb zd_Mo_init_258 (by decide) ?_
        refine lv_istore_n (lv' := [(3, .int (nI 0)), (0, .ref a0), (2, .int x2)]) hx hb zd_Mo_init_259 rfl hl (Nat.le_of_ble_eq_true rfl) rfl (fun ls hl => ?_)
        exact B260 _ ih 6 _ _ ls a0 x2 (nI 0) σ12 hI (lv_sub hl [1, 2, 0] rfl) h
  unfold zf_Mo_init at h
  refine lv_aload_n hx hb zd_Mo_init_0 rfl (lv_at hl 0 rfl) ?_
  refine W.objInit hx hb hown (hts _ zk_565) (hts _ zk_20) (hts _ zk_21) rfl (by rw [hml]; exact hl.1) rfl zd_Mo_init_1 (Nat.le_of_ble_eq_true rfl) (Nat.le_of_ble_eq_true rfl) ?_
  refine W.eq (g2 := F0 m 4 ls []) rfl ?_
  refine lv_aload_n hx hb zd_Mo_init_4 rfl (lv_at hl 0 rfl) ?_
  refine lv_iconst (v := nI 5) hx hb zd_Mo_init_5 (by decide) ?_
  refine za_newa (atype := .int) (ty := .int) hx hb hts hK hI 0 rfl rfl (Or.inl rfl) zk_101 (by decide) (N := 5) (by decide) (by decide) (Nat.le_of_ble_eq_true rfl) (Nat.le_of_ble_eq_true rfl) zd_Mo_init_6 (fun H hI => ?_)
  obtain ⟨σ2, e1, h⟩ := zb_o h
  refine za_put hx hb hts hown hK hI zl_Mo_7 e1 rfl rfl zd_Mo_init_8 (fun H locs hI => ?_)
  refine lv_aload_n hx hb zd_Mo_init_11 rfl (lv_at hl 0 rfl) ?_
  refine lv_iconst (v := nI 5) hx hb zd_Mo_init_12 (by decide) ?_
  refine za_newa (atype := .int) (ty := .int) hx hb hts hK hI 0 rfl rfl (Or.inl rfl) zk_101 (by decide) (N := 5) (by decide) (by decide) (Nat.le_of_ble_eq_true rfl) (Nat.le_of_ble_eq_true rfl) zd_Mo_init_13 (fun H hI => ?_)
  obtain ⟨σ4, e3, h⟩ := zb_o h
  refine za_put hx hb hts hown hK hI zl_Mo_13 e3 rfl rfl zd_Mo_init_15 (fun H locs hI => ?_)
  refine lv_aload_n hx hb zd_Mo_init_18 rfl (lv_at hl 0 rfl) ?_
  refine lv_iconst (v := nI 5) hx hb zd_Mo_init_19 (by decide) ?_
  refine za_newa (atype := .int) (ty := .int) hx hb hts hK hI 0 rfl rfl (Or.inl rfl) zk_101 (by decide) (N := 5) (by decide) (by decide) (Nat.le_of_ble_eq_true rfl) (Nat.le_of_ble_eq_true rfl) zd_Mo_init_20 (fun H hI => ?_)
  obtain ⟨σ6, e5, h⟩ := zb_o h
  refine za_put hx hb hts hown hK hI zl_Mo_16 e5 rfl rfl zd_Mo_init_22 (fun H locs hI => ?_)
  refine lv_aload_n hx hb zd_Mo_init_25 rfl (lv_at hl 0 rfl) ?_
  refine lv_iconst (v := nI 5) hx hb zd_Mo_init_26 (by decide) ?_
  refine za_newa (atype := .int) (ty := .int) hx hb hts hK hI 0 rfl rfl (Or.inl rfl) zk_101 (by decide) (N := 5) (by decide) (by decide) (Nat.le_of_ble_eq_true rfl) (Nat.le_of_ble_eq_true rfl) zd_Mo_init_27 (fun H hI => ?_)
  obtain ⟨σ8, e7, h⟩ := zb_o h
  refine za_put hx hb hts hown hK hI zl_Mo_19 e7 rfl rfl zd_Mo_init_29 (fun H locs hI => ?_)
  refine lv_aload_n hx hb zd_Mo_init_32 rfl (lv_at hl 0 rfl) ?_
  refine lv_bipush (v := nI 32) hx hb zd_Mo_init_33 (by decide) ?_
  refine za_newa (atype := .boolean) (ty := .boolean) hx hb hts hK hI 1 rfl rfl (Or.inr rfl) zk_674 (by decide) (N := 32) (by decide) (by decide) (Nat.le_of_ble_eq_true rfl) (Nat.le_of_ble_eq_true rfl) zd_Mo_init_35 (fun H hI => ?_)
  obtain ⟨σ10, e9, h⟩ := zb_o h
  refine za_put hx hb hts hown hK hI zl_Mo_22 e9 rfl rfl zd_Mo_init_37 (fun H locs hI => ?_)
  refine lv_aload_n hx hb zd_Mo_init_40 rfl (lv_at hl 0 rfl) ?_
  refine lv_iconst (v := nI 5) hx hb zd_Mo_init_41 (by decide) ?_
  refine za_newa (atype := .int) (ty := .int) hx hb hts hK hI 0 rfl rfl (Or.inl rfl) zk_101 (by decide) (N := 5) (by decide) (by decide) (Nat.le_of_ble_eq_true rfl) (Nat.le_of_ble_eq_true rfl) zd_Mo_init_42 (fun H hI => ?_)
  obtain ⟨σ12, e11, h⟩ := zb_o h
  refine za_put hx hb hts hown hK hI zl_Mo_26 e11 rfl rfl zd_Mo_init_44 (fun H locs hI => ?_)
  refine lv_aload_n hx hb zd_Mo_init_47 rfl (lv_at hl 0 rfl) ?_
  refine lv_iconst (v := nI 5) hx hb zd_Mo_init_48 (by decide) ?_
  refine za_newa (atype := .int) (ty := .int) hx hb hts hK hI 0 rfl rfl (Or.inl rfl) zk_101 (by decide) (N := 5) (by decide) (by decide) (Nat.le_of_ble_eq_true rfl) (Nat.le_of_ble_eq_true rfl) zd_Mo_init_49 (fun H hI => ?_)
  obtain ⟨σ14, e13, h⟩ := zb_o h
  refine za_put hx hb hts hown hK hI zl_Mo_29 e13 rfl rfl zd_Mo_init_51 (fun H locs hI => ?_)
  refine lv_aload_n hx hb zd_Mo_init_54 rfl (lv_at hl 0 rfl) ?_
  refine lv_iconst (v := nI 5) hx hb zd_Mo_init_55 (by decide) ?_
  refine za_newa (atype := .int) (ty := .int) hx hb hts hK hI 0 rfl rfl (Or.inl rfl) zk_101 (by decide) (N := 5) (by decide) (by decide) (Nat.le_of_ble_eq_true rfl) (Nat.le_of_ble_eq_true rfl) zd_Mo_init_56 (fun H hI => ?_)
  obtain ⟨σ16, e15, h⟩ := zb_o h
  refine za_put hx hb hts hown hK hI zl_Mo_32 e15 rfl rfl zd_Mo_init_58 (fun H locs hI => ?_)
  refine lv_aload_n hx hb zd_Mo_init_61 rfl (lv_at hl 0 rfl) ?_
  refine lv_iconst (v := nI 5) hx hb zd_Mo_init_62 (by decide) ?_
  refine za_newa (atype := .int) (ty := .int) hx hb hts hK hI 0 rfl rfl (Or.inl rfl) zk_101 (by decide) (N := 5) (by decide) (by decide) (Nat.le_of_ble_eq_true rfl) (Nat.le_of_ble_eq_true rfl) zd_Mo_init_63 (fun H hI => ?_)
  obtain ⟨σ18, e17, h⟩ := zb_o h
  refine za_put hx hb hts hown hK hI zl_Mo_35 e17 rfl rfl zd_Mo_init_65 (fun H locs hI => ?_)
  refine lv_aload_n hx hb zd_Mo_init_68 rfl (lv_at hl 0 rfl) ?_
  refine lv_iconst (v := nI 5) hx hb zd_Mo_init_69 (by decide) ?_
  refine za_newa (atype := .int) (ty := .int) hx hb hts hK hI 0 rfl rfl (Or.inl rfl) zk_101 (by decide) (N := 5) (by decide) (by decide) (Nat.le_of_ble_eq_true rfl) (Nat.le_of_ble_eq_true rfl) zd_Mo_init_70 (fun H hI => ?_)
  obtain ⟨σ20, e19, h⟩ := zb_o h
  refine za_put hx hb hts hown hK hI zl_Mo_38 e19 rfl rfl zd_Mo_init_72 (fun H locs hI => ?_)
  refine lv_aload_n hx hb zd_Mo_init_75 rfl (lv_at hl 0 rfl) ?_
  refine lv_sipush (v := nI 135) hx hb zd_Mo_init_76 (by decide) ?_
  refine za_newa (atype := .int) (ty := .int) hx hb hts hK hI 0 rfl rfl (Or.inl rfl) zk_101 (by decide) (N := 135) (by decide) (by decide) (Nat.le_of_ble_eq_true rfl) (Nat.le_of_ble_eq_true rfl) zd_Mo_init_79 (fun H hI => ?_)
  obtain ⟨σ22, e21, h⟩ := zb_o h
  refine za_put hx hb hts hown hK hI zl_Mo_41 e21 rfl rfl zd_Mo_init_81 (fun H locs hI => ?_)
  refine lv_aload_n hx hb zd_Mo_init_84 rfl (lv_at hl 0 rfl) ?_
  refine lv_sipush (v := nI 150) hx hb zd_Mo_init_85 (by decide) ?_
  refine za_newa (atype := .int) (ty := .int) hx hb hts hK hI 0 rfl rfl (Or.inl rfl) zk_101 (by decide) (N := 150) (by decide) (by decide) (Nat.le_of_ble_eq_true rfl) (Nat.le_of_ble_eq_true rfl) zd_Mo_init_88 (fun H hI => ?_)
  obtain ⟨σ24, e23, h⟩ := zb_o h
  refine za_put hx hb hts hown hK hI zl_Mo_44 e23 rfl rfl zd_Mo_init_90 (fun H locs hI => ?_)
  refine lv_aload_n hx hb zd_Mo_init_93 rfl (lv_at hl 0 rfl) ?_
  refine lv_bipush (v := nI 15) hx hb zd_Mo_init_94 (by decide) ?_
  refine za_newa (atype := .int) (ty := .int) hx hb hts hK hI 0 rfl rfl (Or.inl rfl) zk_101 (by decide) (N := 15) (by decide) (by decide) (Nat.le_of_ble_eq_true rfl) (Nat.le_of_ble_eq_true rfl) zd_Mo_init_96 (fun H hI => ?_)
  obtain ⟨σ26, e25, h⟩ := zb_o h
  refine za_put hx hb hts hown hK hI zl_Mo_47 e25 rfl rfl zd_Mo_init_98 (fun H locs hI => ?_)
  refine lv_aload_n hx hb zd_Mo_init_101 rfl (lv_at hl 0 rfl) ?_
  refine lv_iconst (v := nI 5) hx hb zd_Mo_init_102 (by decide) ?_
  refine za_newa (atype := .int) (ty := .int) hx hb hts hK hI 0 rfl rfl (Or.inl rfl) zk_101 (by decide) (N := 5) (by decide) (by decide) (Nat.le_of_ble_eq_true rfl) (Nat.le_of_ble_eq_true rfl) zd_Mo_init_103 (fun H hI => ?_)
  obtain ⟨σ28, e27, h⟩ := zb_o h
  refine za_put hx hb hts hown hK hI zl_Mo_50 e27 rfl rfl zd_Mo_init_105 (fun H locs hI => ?_)
  refine lv_aload_n hx hb zd_Mo_init_108 rfl (lv_at hl 0 rfl) ?_
  refine lv_bipush (v := nI 120) hx hb zd_Mo_init_109 (by decide) ?_
  refine za_newa (atype := .int) (ty := .int) hx hb hts hK hI 0 rfl rfl (Or.inl rfl) zk_101 (by decide) (N := 120) (by decide) (by decide) (Nat.le_of_ble_eq_true rfl) (Nat.le_of_ble_eq_true rfl) zd_Mo_init_111 (fun H hI => ?_)
  obtain ⟨σ30, e29, h⟩ := zb_o h
  refine za_put hx hb hts hown hK hI zl_Mo_53 e29 rfl rfl zd_Mo_init_113 (fun H locs hI => ?_)
  refine lv_aload_n hx hb zd_Mo_init_116 rfl (lv_at hl 0 rfl) ?_
  refine lv_bipush (v := nI 120) hx hb zd_Mo_init_117 (by decide) ?_
  refine za_newa (atype := .int) (ty := .int) hx hb hts hK hI 0 rfl rfl (Or.inl rfl) zk_101 (by decide) (N := 120) (by decide) (by decide) (Nat.le_of_ble_eq_true rfl) (Nat.le_of_ble_eq_true rfl) zd_Mo_init_119 (fun H hI => ?_)
  obtain ⟨σ32, e31, h⟩ := zb_o h
  refine za_put hx hb hts hown hK hI zl_Mo_56 e31 rfl rfl zd_Mo_init_121 (fun H locs hI => ?_)
  refine lv_aload_n hx hb zd_Mo_init_124 rfl (lv_at hl 0 rfl) ?_
  refine lv_sipush (v := nI 720) hx hb zd_Mo_init_125 (by decide) ?_
  refine za_newa (atype := .int) (ty := .int) hx hb hts hK hI 0 rfl rfl (Or.inl rfl) zk_101 (by decide) (N := 720) (by decide) (by decide) (Nat.le_of_ble_eq_true rfl) (Nat.le_of_ble_eq_true rfl) zd_Mo_init_128 (fun H hI => ?_)
  obtain ⟨σ34, e33, h⟩ := zb_o h
  refine za_put hx hb hts hown hK hI zl_Mo_59 e33 rfl rfl zd_Mo_init_130 (fun H locs hI => ?_)
  refine lv_aload_n hx hb zd_Mo_init_133 rfl (lv_at hl 0 rfl) ?_
  refine lv_bipush (v := nI 9) hx hb zd_Mo_init_134 (by decide) ?_
  refine za_newa (atype := .boolean) (ty := .boolean) hx hb hts hK hI 1 rfl rfl (Or.inr rfl) zk_674 (by decide) (N := 9) (by decide) (by decide) (Nat.le_of_ble_eq_true rfl) (Nat.le_of_ble_eq_true rfl) zd_Mo_init_136 (fun H hI => ?_)
  obtain ⟨σ36, e35, h⟩ := zb_o h
  refine za_put hx hb hts hown hK hI zl_Mo_62 e35 rfl rfl zd_Mo_init_138 (fun H locs hI => ?_)
  refine lv_aload_n hx hb zd_Mo_init_141 rfl (lv_at hl 0 rfl) ?_
  refine lv_bipush (v := nI 9) hx hb zd_Mo_init_142 (by decide) ?_
  refine za_newa (atype := .int) (ty := .int) hx hb hts hK hI 0 rfl rfl (Or.inl rfl) zk_101 (by decide) (N := 9) (by decide) (by decide) (Nat.le_of_ble_eq_true rfl) (Nat.le_of_ble_eq_true rfl) zd_Mo_init_144 (fun H hI => ?_)
  obtain ⟨σ38, e37, h⟩ := zb_o h
  refine za_put hx hb hts hown hK hI zl_Mo_65 e37 rfl rfl zd_Mo_init_146 (fun H locs hI => ?_)
  refine lv_aload_n hx hb zd_Mo_init_149 rfl (lv_at hl 0 rfl) ?_
  refine lv_bipush (v := nI 9) hx hb zd_Mo_init_150 (by decide) ?_
  refine za_newa (atype := .int) (ty := .int) hx hb hts hK hI 0 rfl rfl (Or.inl rfl) zk_101 (by decide) (N := 9) (by decide) (by decide) (Nat.le_of_ble_eq_true rfl) (Nat.le_of_ble_eq_true rfl) zd_Mo_init_152 (fun H hI => ?_)
  obtain ⟨σ40, e39, h⟩ := zb_o h
  refine za_put hx hb hts hown hK hI zl_Mo_68 e39 rfl rfl zd_Mo_init_154 (fun H locs hI => ?_)
  refine lv_aload_n hx hb zd_Mo_init_157 rfl (lv_at hl 0 rfl) ?_
  refine lv_bipush (v := nI 9) hx hb zd_Mo_init_158 (by decide) ?_
  refine za_newa (atype := .int) (ty := .int) hx hb hts hK hI 0 rfl rfl (Or.inl rfl) zk_101 (by decide) (N := 9) (by decide) (by decide) (Nat.le_of_ble_eq_true rfl) (Nat.le_of_ble_eq_true rfl) zd_Mo_init_160 (fun H hI => ?_)
  obtain ⟨σ42, e41, h⟩ := zb_o h
  refine za_put hx hb hts hown hK hI zl_Mo_71 e41 rfl rfl zd_Mo_init_162 (fun H locs hI => ?_)
  refine lv_aload_n hx hb zd_Mo_init_165 rfl (lv_at hl 0 rfl) ?_
  refine lv_bipush (v := nI 9) hx hb zd_Mo_init_166 (by decide) ?_
  refine za_newa (atype := .int) (ty := .int) hx hb hts hK hI 0 rfl rfl (Or.inl rfl) zk_101 (by decide) (N := 9) (by decide) (by decide) (Nat.le_of_ble_eq_true rfl) (Nat.le_of_ble_eq_true rfl) zd_Mo_init_168 (fun H hI => ?_)
  obtain ⟨σ44, e43, h⟩ := zb_o h
  refine za_put hx hb hts hown hK hI zl_Mo_74 e43 rfl rfl zd_Mo_init_170 (fun H locs hI => ?_)
  refine lv_aload_n hx hb zd_Mo_init_173 rfl (lv_at hl 0 rfl) ?_
  refine lv_bipush (v := nI 9) hx hb zd_Mo_init_174 (by decide) ?_
  refine za_newa (atype := .int) (ty := .int) hx hb hts hK hI 0 rfl rfl (Or.inl rfl) zk_101 (by decide) (N := 9) (by decide) (by decide) (Nat.le_of_ble_eq_true rfl) (Nat.le_of_ble_eq_true rfl) zd_Mo_init_176 (fun H hI => ?_)
  obtain ⟨σ46, e45, h⟩ := zb_o h
  refine za_put hx hb hts hown hK hI zl_Mo_77 e45 rfl rfl zd_Mo_init_178 (fun H locs hI => ?_)
  refine lv_aload_n hx hb zd_Mo_init_181 rfl (lv_at hl 0 rfl) ?_
  refine lv_bipush (v := nI 40) hx hb zd_Mo_init_182 (by decide) ?_
  refine za_newa (atype := .int) (ty := .int) hx hb hts hK hI 0 rfl rfl (Or.inl rfl) zk_101 (by decide) (N := 40) (by decide) (by decide) (Nat.le_of_ble_eq_true rfl) (Nat.le_of_ble_eq_true rfl) zd_Mo_init_184 (fun H hI => ?_)
  obtain ⟨σ48, e47, h⟩ := zb_o h
  refine za_put hx hb hts hown hK hI zl_Mo_80 e47 rfl rfl zd_Mo_init_186 (fun H locs hI => ?_)
  refine lv_aload_n hx hb zd_Mo_init_189 rfl (lv_at hl 0 rfl) ?_
  refine lv_iconst (v := nI 5) hx hb zd_Mo_init_190 (by decide) ?_
  refine za_newa (atype := .int) (ty := .int) hx hb hts hK hI 0 rfl rfl (Or.inl rfl) zk_101 (by decide) (N := 5) (by decide) (by decide) (Nat.le_of_ble_eq_true rfl) (Nat.le_of_ble_eq_true rfl) zd_Mo_init_191 (fun H hI => ?_)
  obtain ⟨σ50, e49, h⟩ := zb_o h
  refine za_put hx hb hts hown hK hI zl_Mo_83 e49 rfl rfl zd_Mo_init_193 (fun H locs hI => ?_)
  refine lv_aload_n hx hb zd_Mo_init_196 rfl (lv_at hl 0 rfl) ?_
  refine lv_bipush (v := nI 45) hx hb zd_Mo_init_197 (by decide) ?_
  refine za_newa (atype := .int) (ty := .int) hx hb hts hK hI 0 rfl rfl (Or.inl rfl) zk_101 (by decide) (N := 45) (by decide) (by decide) (Nat.le_of_ble_eq_true rfl) (Nat.le_of_ble_eq_true rfl) zd_Mo_init_199 (fun H hI => ?_)
  obtain ⟨σ52, e51, h⟩ := zb_o h
  refine za_put hx hb hts hown hK hI zl_Mo_86 e51 rfl rfl zd_Mo_init_201 (fun H locs hI => ?_)
  refine lv_aload_n hx hb zd_Mo_init_204 rfl (lv_at hl 0 rfl) ?_
  refine lv_bipush (v := nI 45) hx hb zd_Mo_init_205 (by decide) ?_
  refine za_newa (atype := .int) (ty := .int) hx hb hts hK hI 0 rfl rfl (Or.inl rfl) zk_101 (by decide) (N := 45) (by decide) (by decide) (Nat.le_of_ble_eq_true rfl) (Nat.le_of_ble_eq_true rfl) zd_Mo_init_207 (fun H hI => ?_)
  obtain ⟨σ54, e53, h⟩ := zb_o h
  refine za_put hx hb hts hown hK hI zl_Mo_89 e53 rfl rfl zd_Mo_init_209 (fun H locs hI => ?_)
  refine lv_aload_n hx hb zd_Mo_init_212 rfl (lv_at hl 0 rfl) ?_
  refine lv_bipush (v := nI 45) hx hb zd_Mo_init_213 (by decide) ?_
  refine za_newa (atype := .int) (ty := .int) hx hb hts hK hI 0 rfl rfl (Or.inl rfl) zk_101 (by decide) (N := 45) (by decide) (by decide) (Nat.le_of_ble_eq_true rfl) (Nat.le_of_ble_eq_true rfl) zd_Mo_init_215 (fun H hI => ?_)
  obtain ⟨σ56, e55, h⟩ := zb_o h
  refine za_put hx hb hts hown hK hI zl_Mo_92 e55 rfl rfl zd_Mo_init_217 (fun H locs hI => ?_)
  refine lv_aload_n hx hb zd_Mo_init_220 rfl (lv_at hl 0 rfl) ?_
  refine lv_bipush (v := nI 45) hx hb zd_Mo_init_221 (by decide) ?_
  refine za_newa (atype := .int) (ty := .int) hx hb hts hK hI 0 rfl rfl (Or.inl rfl) zk_101 (by decide) (N := 45) (by decide) (by decide) (Nat.le_of_ble_eq_true rfl) (Nat.le_of_ble_eq_true rfl) zd_Mo_init_223 (fun H hI => ?_)
  obtain ⟨σ58, e57, h⟩ := zb_o h
  refine za_put hx hb hts hown hK hI zl_Mo_95 e57 rfl rfl zd_Mo_init_225 (fun H locs hI => ?_)
  refine lv_aload_n hx hb zd_Mo_init_228 rfl (lv_at hl 0 rfl) ?_
  refine lv_iload_n hx hb zd_Mo_init_229 rfl (lv_at hl 1 rfl) ?_
  refine lv_bipush (v := nI 31) hx hb zd_Mo_init_230 (by decide) ?_
  refine lv_iand hx hb zd_Mo_init_232 ?_
  obtain ⟨σ60, e59, h⟩ := zb_o h
  refine za_put hx hb hts hown hK hI zl_Mo_98 e59 rfl rfl zd_Mo_init_233 (fun H locs hI => ?_)
  refine lv_iconst (v := nI 0) hx hb zd_Mo_init_236 (by decide) ?_
  refine lv_istore_n (lv' := [(2, .int (nI 0)), (0, .ref ay0), (1, .int xy1)]) hx hb zd_Mo_init_237 rfl hl (Nat.le_of_ble_eq_true rfl) rfl (fun ls hl => ?_)
  exact B238 6 _ _ ls ay0 (nI 0) σ60 hI (lv_sub hl [1, 0] rfl) h

def zf_Mo_in_15 (xs0 : Int32) (σ : za_h) : Option (Int32 × za_h) :=
  if xs0 = 0 ∨ xs0 = 1 then some (xs0, σ) else none

def zf_Mo_in_14  (σ : za_h) : Option (Int32 × za_h) :=
  zf_Mo_in_15 (nI 0) σ

def zf_Mo_in (xy0 : Int32) (xy1 : Int32) (xy2 : Int32) (σ : za_h) : Option (Int32 × za_h) :=
  if xy0 < xy1 then
  (zf_Mo_in_14 σ)
  else
  (if xy2 < xy0 then
  (zf_Mo_in_14 σ)
  else
  (zf_Mo_in_15 (nI 1) σ))
set_option maxRecDepth 100000 in
set_option maxHeartbeats 4000000 in
theorem zm_Mo_in {l : Launch} {D : va_G} {ca : Nat → ClassId} {n0 : Nat} {xy0 : Int32} {xy1 : Int32} {xy2 : Int32} {σ σ' : za_h} {r : Int32} (h : zf_Mo_in xy0 xy1 xy2 σ = some (r, σ')) : Met l zy_Mo_in (za_wy zy_Mo_in zc_Mo_in 3 (some .boolean)) { frames := 0, cells := 0, slots := 0, locals := 0 } (za_Pc D ca n0 [.int xy0, .int xy1, .int xy2] σ) (za_Qi D ca n0 r σ') 0 0 (za_A n0) := by
  refine za_met (by decide) (Nat.le_of_ble_eq_true rfl) ?_
  intro p e s m below meth c ls hx hb hml hr hlk hts hown hnm hK hI hl
  replace hown : s.vm.findClass zR_Mo = some m.cls := hown
  replace hl : lv_has ls 3 [(0, .int xy0), (1, .int xy1), (2, .int xy2)] := hl
  have B15 : ∀ (H : Heap) (locs : List Loc) (ls : Array Slot) (xs0 : Int32) (σ : za_h), za_I D ca n0 s σ H locs → lv_has ls 3 [] → zf_Mo_in_15 xs0 σ = some (r, σ') → W p l e ({ frames := 0, cells := 0, slots := 0, locals := 0 }) s m ([.int xy0, .int xy1, .int xy2] : List Value).toArray below meth c H locs 0 0 (MQ below (za_Qi D ca n0 r σ') ([.int xy0, .int xy1, .int xy2] : List Value).toArray s 0 0 (za_A n0)) (F0 m 15 ls [.int xs0]) := by
    intro H locs ls xs0 σ hI hl h
    unfold zf_Mo_in_15 at h
    obtain ⟨g1, h⟩ := zb_g h
    exact za_zret hx hb hr hlk hI g1 h (Nat.le_of_ble_eq_true rfl) (Nat.le_of_ble_eq_true rfl) zd_Mo_in_15
  have B14 : ∀ (H : Heap) (locs : List Loc) (ls : Array Slot) (σ : za_h), za_I D ca n0 s σ H locs → lv_has ls 3 [] → zf_Mo_in_14 σ = some (r, σ') → W p l e ({ frames := 0, cells := 0, slots := 0, locals := 0 }) s m ([.int xy0, .int xy1, .int xy2] : List Value).toArray below meth c H locs 0 0 (MQ below (za_Qi D ca n0 r σ') ([.int xy0, .int xy1, .int xy2] : List Value).toArray s 0 0 (za_A n0)) (F0 m 14 ls []) := by
    intro H locs ls σ hI hl h
    unfold zf_Mo_in_14 at h
    refine lv_iconst (v := nI 0) hx hb zd_Mo_in_14 (by decide) ?_
    exact B15 _ _ ls (nI 0) σ hI (lv_sub hl [] rfl) h
  unfold zf_Mo_in at h
  refine lv_iload_n hx hb zd_Mo_in_0 rfl (lv_at hl 0 rfl) ?_
  refine lv_iload_n hx hb zd_Mo_in_1 rfl (lv_at hl 1 rfl) ?_
  refine lv_icmp_lt hx hb (tgt := 14) zd_Mo_in_2 (by decide) (fun c1 => ?_) (fun c1 => ?_)
  · replace h := zb_t c1 h
    exact B14 _ _ ls σ hI (lv_sub hl [] rfl) h
  · replace h := zb_f c1 h
    refine lv_iload_n hx hb zd_Mo_in_5 rfl (lv_at hl 0 rfl) ?_
    refine lv_iload_n hx hb zd_Mo_in_6 rfl (lv_at hl 2 rfl) ?_
    refine lv_icmp_gt hx hb (tgt := 14) zd_Mo_in_7 (by decide) (fun c2 => ?_) (fun c2 => ?_)
    · replace h := zb_t c2 h
      exact B14 _ _ ls σ hI (lv_sub hl [] rfl) h
    · replace h := zb_f c2 h
      refine lv_iconst (v := nI 1) hx hb zd_Mo_in_10 (by decide) ?_
      refine lv_goto hx hb (tgt := 15) zd_Mo_in_11 (by decide) ?_
      exact B15 _ _ ls (nI 1) σ hI (lv_sub hl [] rfl) h

def zf_Mo_good_25 (xs0 : Int32) (σ : za_h) : Option (Int32 × za_h) :=
  if xs0 = 0 ∨ xs0 = 1 then some (xs0, σ) else none

def zf_Mo_good_24  (σ : za_h) : Option (Int32 × za_h) :=
  zf_Mo_good_25 (nI 0) σ

def zf_Mo_good (ay0 : Nat) (xy1 : Int32) (σ : za_h) : Option (Int32 × za_h) :=
  (zf_Mo_in xy1 (nI 0) (nI 4) σ).bind fun (r1, σ2) =>
  if r1 = 0 then
  (zf_Mo_good_24 σ2)
  else
  ((zg_i σ2 ay0 10 0).bind fun v6 =>
  if ((v6 >>> (xy1 &&& 31)) &&& (nI 1)) = 0 then
  (zf_Mo_good_25 (nI 1) σ2)
  else
  (zf_Mo_good_24 σ2))
set_option maxRecDepth 100000 in
set_option maxHeartbeats 4000000 in
theorem zm_Mo_good {l : Launch} {D : va_G} {ca : Nat → ClassId} {n0 : Nat} {ay0 : Nat} {xy1 : Int32} {σ σ' : za_h} {r : Int32} (h : zf_Mo_good ay0 xy1 σ = some (r, σ')) : Met l zy_Mo_good (za_wy zy_Mo_good zc_Mo_good 2 (some .boolean)) { frames := 1, cells := 0, slots := 0, locals := 22 } (za_Pc D ca n0 [.ref ay0, .int xy1] σ) (za_Qi D ca n0 r σ') 0 0 (za_A n0) := by
  refine za_met (by decide) (Nat.le_of_ble_eq_true rfl) ?_
  intro p e s m below meth c ls hx hb hml hr hlk hts hown hnm hK hI hl
  replace hown : s.vm.findClass zR_Mo = some m.cls := hown
  replace hl : lv_has ls 2 [(0, .ref ay0), (1, .int xy1)] := hl
  have B25 : ∀ (H : Heap) (locs : List Loc) (ls : Array Slot) (xs0 : Int32) (σ : za_h), za_I D ca n0 s σ H locs → lv_has ls 2 [] → zf_Mo_good_25 xs0 σ = some (r, σ') → W p l e ({ frames := 1, cells := 0, slots := 0, locals := 22 }) s m ([.ref ay0, .int xy1] : List Value).toArray below meth c H locs 0 0 (MQ below (za_Qi D ca n0 r σ') ([.ref ay0, .int xy1] : List Value).toArray s 0 0 (za_A n0)) (F0 m 25 ls [.int xs0]) := by
    intro H locs ls xs0 σ hI hl h
    unfold zf_Mo_good_25 at h
    obtain ⟨g1, h⟩ := zb_g h
    exact za_zret hx hb hr hlk hI g1 h (Nat.le_of_ble_eq_true rfl) (Nat.le_of_ble_eq_true rfl) zd_Mo_good_25
  have B24 : ∀ (H : Heap) (locs : List Loc) (ls : Array Slot) (σ : za_h), za_I D ca n0 s σ H locs → lv_has ls 2 [] → zf_Mo_good_24 σ = some (r, σ') → W p l e ({ frames := 1, cells := 0, slots := 0, locals := 22 }) s m ([.ref ay0, .int xy1] : List Value).toArray below meth c H locs 0 0 (MQ below (za_Qi D ca n0 r σ') ([.ref ay0, .int xy1] : List Value).toArray s 0 0 (za_A n0)) (F0 m 24 ls []) := by
    intro H locs ls σ hI hl h
    unfold zf_Mo_good_24 at h
    refine lv_iconst (v := nI 0) hx hb zd_Mo_good_24 (by decide) ?_
    exact B25 _ _ ls (nI 0) σ hI (lv_sub hl [] rfl) h
  unfold zf_Mo_good at h
  refine lv_iload_n hx hb zd_Mo_good_0 rfl (lv_at hl 1 rfl) ?_
  refine lv_iconst (v := nI 0) hx hb zd_Mo_good_1 (by decide) ?_
  refine lv_iconst (v := nI 4) hx hb zd_Mo_good_2 (by decide) ?_
  obtain ⟨⟨r1, σ2⟩, e3, h⟩ := zb_o h
  refine za_calli (za_runS hx hb hml hown hts hK hI (zm_Mo_in e3) zj_Mo_105 ⟨rfl, rfl⟩ ⟨Nat.le_of_ble_eq_true rfl, Nat.le_of_ble_eq_true rfl⟩ rfl hl.1 rfl (Nat.le_of_ble_eq_true rfl) zd_Mo_good_3 ⟨Nat.le_of_ble_eq_true rfl, Nat.le_of_ble_eq_true rfl⟩) hI (fun H locs hI => ?_)
  refine lv_if_eq hx hb (tgt := 24) zd_Mo_good_6 (by decide) (fun c4 => ?_) (fun c4 => ?_)
  · replace h := zb_t c4 h
    exact B24 _ _ ls σ2 hI (lv_sub hl [] rfl) h
  · replace h := zb_f c4 h
    refine lv_aload_n hx hb zd_Mo_good_9 rfl (lv_at hl 0 rfl) ?_
    obtain ⟨v6, e5, h⟩ := zb_o h
    refine za_geti hx hb hts hown hK hI zl_Mo_98 e5 zd_Mo_good_10 ?_
    refine lv_iload_n hx hb zd_Mo_good_13 rfl (lv_at hl 1 rfl) ?_
    refine lv_ishr hx hb zd_Mo_good_14 ?_
    refine lv_iconst (v := nI 1) hx hb zd_Mo_good_15 (by decide) ?_
    refine lv_iand hx hb zd_Mo_good_16 ?_
    refine lv_if_ne hx hb (tgt := 24) zd_Mo_good_17 (by decide) (fun c7 => ?_) (fun c7 => ?_)
    · replace h := zb_f c7 h
      exact B24 _ _ ls σ2 hI (lv_sub hl [] rfl) h
    · replace h := zb_t c7 h
      refine lv_iconst (v := nI 1) hx hb zd_Mo_good_20 (by decide) ?_
      refine lv_goto hx hb (tgt := 25) zd_Mo_good_21 (by decide) ?_
      exact B25 _ _ ls (nI 1) σ2 hI (lv_sub hl [] rfl) h

def zf_Mo_gives_36 (k2 : Nat → Int32 → Int32 → Int32 → za_h → Option (Int32 × za_h)) (a0 : Nat) (x1 : Int32) (x2 : Int32) (x3 : Int32) (σ : za_h) : Option (Int32 × za_h) :=
  k2 a0 x1 x2 (x3 + nI 1) σ

def zf_Mo_gives_2 : Nat → Nat → Int32 → Int32 → Int32 → za_h → Option (Int32 × za_h)
  | 0, _, _, _, _, _ => none
  | n + 1, a0, x1, x2, x3, σ =>
  if (nI 32) ≤ x3 then
  (some ((nI 0), σ))
  else
  (if (x3 &&& (x1 ^^^ (-1))) = 0 then
  (if ((x3 >>> (x2 &&& 31)) &&& (nI 1)) = (nI 1) then
  ((zg_r σ a0 10 6).bind fun b5 =>
  (za_ld σ b5 1 x3).bind fun v6 =>
  if v6 = 0 then
  (zf_Mo_gives_36 (zf_Mo_gives_2 n) a0 x1 x2 x3 σ)
  else
  (some ((nI 1), σ)))
  else
  (zf_Mo_gives_36 (zf_Mo_gives_2 n) a0 x1 x2 x3 σ))
  else
  (zf_Mo_gives_36 (zf_Mo_gives_2 n) a0 x1 x2 x3 σ))

def zf_Mo_gives (ay0 : Nat) (xy1 : Int32) (xy2 : Int32) (σ : za_h) : Option (Int32 × za_h) :=
  zf_Mo_gives_2 33 ay0 xy1 xy2 (nI 0) σ
set_option maxRecDepth 100000 in
set_option maxHeartbeats 4000000 in
theorem zm_Mo_gives {l : Launch} {D : va_G} {ca : Nat → ClassId} {n0 : Nat} {ay0 : Nat} {xy1 : Int32} {xy2 : Int32} {σ σ' : za_h} {r : Int32} (h : zf_Mo_gives ay0 xy1 xy2 σ = some (r, σ')) : Met l zy_Mo_gives (za_wy zy_Mo_gives zc_Mo_gives 4 (some .boolean)) { frames := 0, cells := 0, slots := 0, locals := 0 } (za_Pc D ca n0 [.ref ay0, .int xy1, .int xy2] σ) (za_Qi D ca n0 r σ') 0 0 (za_A n0) := by
  refine za_met (by decide) (Nat.le_of_ble_eq_true rfl) ?_
  intro p e s m below meth c ls hx hb hml hr hlk hts hown hnm hK hI hl
  replace hown : s.vm.findClass zR_Mo = some m.cls := hown
  replace hl : lv_has ls 4 [(0, .ref ay0), (1, .int xy1), (2, .int xy2)] := hl
  have B36 : ∀ (k2 : Nat → Int32 → Int32 → Int32 → za_h → Option (Int32 × za_h)), (∀ (H : Heap) (locs : List Loc) (ls : Array Slot) (a0 : Nat) (x1 : Int32) (x2 : Int32) (x3 : Int32) (σ : za_h), za_I D ca n0 s σ H locs → lv_has ls 4 [(0, .ref a0), (1, .int x1), (2, .int x2), (3, .int x3)] → k2 a0 x1 x2 x3 σ = some (r, σ') → W p l e ({ frames := 0, cells := 0, slots := 0, locals := 0 }) s m ([.ref ay0, .int xy1, .int xy2] : List Value).toArray below meth c H locs 0 0 (MQ below (za_Qi D ca n0 r σ') ([.ref ay0, .int xy1, .int xy2] : List Value).toArray s 0 0 (za_A n0)) (F0 m 2 ls [])) → ∀ (H : Heap) (locs : List Loc) (ls : Array Slot) (a0 : Nat) (x1 : Int32) (x2 : Int32) (x3 : Int32) (σ : za_h), za_I D ca n0 s σ H locs → lv_has ls 4 [(0, .ref a0), (1, .int x1), (2, .int x2), (3, .int x3)] → zf_Mo_gives_36 k2 a0 x1 x2 x3 σ = some (r, σ') → W p l e ({ frames := 0, cells := 0, slots := 0, locals := 0 }) s m ([.ref ay0, .int xy1, .int xy2] : List Value).toArray below meth c H locs 0 0 (MQ below (za_Qi D ca n0 r σ') ([.ref ay0, .int xy1, .int xy2] : List Value).toArray s 0 0 (za_A n0)) (F0 m 36 ls []) := by
    intro k2 hk2 H locs ls a0 x1 x2 x3 σ hI hl h
    unfold zf_Mo_gives_36 at h
    refine lv_iinc (k := 3) (v := (x3 + nI 1)) (lv' := [(3, .int (x3 + nI 1)), (0, .ref a0), (1, .int x1), (2, .int x2)]) hx hb zd_Mo_gives_36 hl rfl rfl (Nat.le_of_ble_eq_true rfl) rfl (fun ls hl => ?_)
    refine lv_goto hx hb (tgt := 2) zd_Mo_gives_39 (by decide) ?_
    exact hk2 _ _ ls a0 x1 x2 (x3 + nI 1) σ hI (lv_sub hl [1, 2, 3, 0] rfl) h
  have B2 : ∀ n : Nat, ∀ (H : Heap) (locs : List Loc) (ls : Array Slot) (a0 : Nat) (x1 : Int32) (x2 : Int32) (x3 : Int32) (σ : za_h), za_I D ca n0 s σ H locs → lv_has ls 4 [(0, .ref a0), (1, .int x1), (2, .int x2), (3, .int x3)] → zf_Mo_gives_2 n a0 x1 x2 x3 σ = some (r, σ') → W p l e ({ frames := 0, cells := 0, slots := 0, locals := 0 }) s m ([.ref ay0, .int xy1, .int xy2] : List Value).toArray below meth c H locs 0 0 (MQ below (za_Qi D ca n0 r σ') ([.ref ay0, .int xy1, .int xy2] : List Value).toArray s 0 0 (za_A n0)) (F0 m 2 ls []) := by
    intro n
    induction n with
    | zero => intro H locs ls a0 x1 x2 x3 σ hI hl h; rw [zf_Mo_gives_2] at h; cases h
    | succ n ih =>
      intro H locs ls a0 x1 x2 x3 σ hI hl h
      rw [zf_Mo_gives_2] at h
      refine lv_iload_n hx hb zd_Mo_gives_2 rfl (lv_at hl 3 rfl) ?_
      refine lv_bipush (v := nI 32) hx hb zd_Mo_gives_3 (by decide) ?_
      refine lv_icmp_ge hx hb (tgt := 42) zd_Mo_gives_5 (by decide) (fun c1 => ?_) (fun c1 => ?_)
      · replace h := zb_t c1 h
        refine lv_iconst (v := nI 0) hx hb zd_Mo_gives_42 (by decide) ?_
        exact za_zret hx hb hr hlk hI (by decide) h (Nat.le_of_ble_eq_true rfl) (Nat.le_of_ble_eq_true rfl) zd_Mo_gives_43
      · replace h := zb_f c1 h
        refine lv_iload_n hx hb zd_Mo_gives_8 rfl (lv_at hl 3 rfl) ?_
        refine lv_iload_n hx hb zd_Mo_gives_9 rfl (lv_at hl 1 rfl) ?_
        refine lv_iconst (v := -1) hx hb zd_Mo_gives_10 (by decide) ?_
        refine lv_ixor hx hb zd_Mo_gives_11 ?_
        refine lv_iand hx hb zd_Mo_gives_12 ?_
        refine lv_if_ne hx hb (tgt := 36) zd_Mo_gives_13 (by decide) (fun c2 => ?_) (fun c2 => ?_)
        · replace h := zb_f c2 h
          exact B36 _ ih _ _ ls a0 x1 x2 x3 σ hI (lv_sub hl [0, 1, 2, 3] rfl) h
        · replace h := zb_t c2 h
          refine lv_iload_n hx hb zd_Mo_gives_16 rfl (lv_at hl 3 rfl) ?_
          refine lv_iload_n hx hb zd_Mo_gives_17 rfl (lv_at hl 2 rfl) ?_
          refine lv_ishr hx hb zd_Mo_gives_18 ?_
          refine lv_iconst (v := nI 1) hx hb zd_Mo_gives_19 (by decide) ?_
          refine lv_iand hx hb zd_Mo_gives_20 ?_
          refine lv_iconst (v := nI 1) hx hb zd_Mo_gives_21 (by decide) ?_
          refine lv_icmp_ne hx hb (tgt := 36) zd_Mo_gives_22 (by decide) (fun c3 => ?_) (fun c3 => ?_)
          · replace h := zb_f c3 h
            exact B36 _ ih _ _ ls a0 x1 x2 x3 σ hI (lv_sub hl [0, 1, 2, 3] rfl) h
          · replace h := zb_t c3 h
            refine lv_aload_n hx hb zd_Mo_gives_25 rfl (lv_at hl 0 rfl) ?_
            obtain ⟨b5, e4, h⟩ := zb_o h
            refine za_getr hx hb hts hown hK hI zl_Mo_22 e4 zd_Mo_gives_26 ?_
            refine lv_iload_n hx hb zd_Mo_gives_29 rfl (lv_at hl 3 rfl) ?_
            obtain ⟨v6, e7, h⟩ := zb_o h
            refine za_zald hx hb hK hI e7 zd_Mo_gives_30 ?_
            refine lv_if_eq hx hb (tgt := 36) zd_Mo_gives_31 (by decide) (fun c8 => ?_) (fun c8 => ?_)
            · replace h := zb_t c8 h
              exact B36 _ ih _ _ ls a0 x1 x2 x3 σ hI (lv_sub hl [0, 1, 2, 3] rfl) h
            · replace h := zb_f c8 h
              refine lv_iconst (v := nI 1) hx hb zd_Mo_gives_34 (by decide) ?_
              exact za_zret hx hb hr hlk hI (by decide) h (Nat.le_of_ble_eq_true rfl) (Nat.le_of_ble_eq_true rfl) zd_Mo_gives_35
  unfold zf_Mo_gives at h
  refine lv_iconst (v := nI 0) hx hb zd_Mo_gives_0 (by decide) ?_
  refine lv_istore_n (lv' := [(3, .int (nI 0)), (0, .ref ay0), (1, .int xy1), (2, .int xy2)]) hx hb zd_Mo_gives_1 rfl hl (Nat.le_of_ble_eq_true rfl) rfl (fun ls hl => ?_)
  exact B2 33 _ _ ls ay0 xy1 xy2 (nI 0) σ hI (lv_sub hl [1, 2, 3, 0] rfl) h

def zf_Mo_trust_57  (σ : za_h) : Option (Int32 × za_h) :=
  some ((nI 0), σ)

def zf_Mo_trust (ay0 : Nat) (xy1 : Int32) (xy2 : Int32) (xy3 : Int32) (xy4 : Int32) (xy5 : Int32) (σ : za_h) : Option (Int32 × za_h) :=
  (zf_Mo_in xy1 (nI 0) (nI 4) σ).bind fun (r1, σ2) =>
  if r1 = 0 then
  (zf_Mo_trust_57 σ2)
  else
  ((zf_Mo_in xy2 (nI 1) (nI 6) σ2).bind fun (r5, σ6) =>
  if r5 = 0 then
  (zf_Mo_trust_57 σ6)
  else
  ((zf_Mo_in xy3 (nI 0) (nI 31) σ6).bind fun (r9, σ10) =>
  if r9 = 0 then
  (zf_Mo_trust_57 σ10)
  else
  ((zf_Mo_in xy5 (nI 0) (nI 31) σ10).bind fun (r13, σ14) =>
  if r13 = 0 then
  (zf_Mo_trust_57 σ14)
  else
  ((zf_Mo_in xy4 (nI 0) (nI 5) σ14).bind fun (r17, σ18) =>
  if r17 = 0 then
  (zf_Mo_trust_57 σ18)
  else
  ((zg_i σ18 ay0 10 1).bind fun v22 =>
  if v22 = 0 then
  ((zg_r σ18 ay0 10 2).bind fun b25 =>
  (za_st σ18 b25 0 xy1 xy2).bind fun σ26 =>
  (zg_r σ26 ay0 10 3).bind fun b29 =>
  (za_st σ26 b29 0 xy1 xy3).bind fun σ30 =>
  (zg_r σ30 ay0 10 4).bind fun b33 =>
  (za_st σ30 b33 0 xy1 xy4).bind fun σ34 =>
  (zg_r σ34 ay0 10 5).bind fun b37 =>
  (za_st σ34 b37 0 xy1 xy5).bind fun σ38 =>
  (zg_c σ38 ay0 10).bind fun _ =>
  (zf_Mo_table ay0 σ38).bind fun (_, σ42) =>
  some ((nI 1), σ42))
  else
  (zf_Mo_trust_57 σ18))))))
set_option maxRecDepth 100000 in
set_option maxHeartbeats 4000000 in
theorem zm_Mo_trust {l : Launch} {D : va_G} {ca : Nat → ClassId} {n0 : Nat} {ay0 : Nat} {xy1 : Int32} {xy2 : Int32} {xy3 : Int32} {xy4 : Int32} {xy5 : Int32} {σ σ' : za_h} {r : Int32} (h : zf_Mo_trust ay0 xy1 xy2 xy3 xy4 xy5 σ = some (r, σ')) : Met l zy_Mo_trust (za_wy zy_Mo_trust zc_Mo_trust 6 (some .boolean)) { frames := 3, cells := 0, slots := 0, locals := 68 } (za_Pc D ca n0 [.ref ay0, .int xy1, .int xy2, .int xy3, .int xy4, .int xy5] σ) (za_Qi D ca n0 r σ') 0 0 (za_A n0) := by
  refine za_met (by decide) (Nat.le_of_ble_eq_true rfl) ?_
  intro p e s m below meth c ls hx hb hml hr hlk hts hown hnm hK hI hl
  replace hown : s.vm.findClass zR_Mo = some m.cls := hown
  replace hl : lv_has ls 6 [(0, .ref ay0), (1, .int xy1), (2, .int xy2), (3, .int xy3), (4, .int xy4), (5, .int xy5)] := hl
  have B57 : ∀ (H : Heap) (locs : List Loc) (ls : Array Slot) (σ : za_h), za_I D ca n0 s σ H locs → lv_has ls 6 [] → zf_Mo_trust_57 σ = some (r, σ') → W p l e ({ frames := 3, cells := 0, slots := 0, locals := 68 }) s m ([.ref ay0, .int xy1, .int xy2, .int xy3, .int xy4, .int xy5] : List Value).toArray below meth c H locs 0 0 (MQ below (za_Qi D ca n0 r σ') ([.ref ay0, .int xy1, .int xy2, .int xy3, .int xy4, .int xy5] : List Value).toArray s 0 0 (za_A n0)) (F0 m 57 ls []) := by
    intro H locs ls σ hI hl h
    unfold zf_Mo_trust_57 at h
    refine lv_iconst (v := nI 0) hx hb zd_Mo_trust_57 (by decide) ?_
    exact za_zret hx hb hr hlk hI (by decide) h (Nat.le_of_ble_eq_true rfl) (Nat.le_of_ble_eq_true rfl) zd_Mo_trust_58
  unfold zf_Mo_trust at h
  refine lv_iload_n hx hb zd_Mo_trust_0 rfl (lv_at hl 1 rfl) ?_
  refine lv_iconst (v := nI 0) hx hb zd_Mo_trust_1 (by decide) ?_
  refine lv_iconst (v := nI 4) hx hb zd_Mo_trust_2 (by decide) ?_
  obtain ⟨⟨r1, σ2⟩, e3, h⟩ := zb_o h
  refine za_calli (za_runS hx hb hml hown hts hK hI (zm_Mo_in e3) zj_Mo_105 ⟨rfl, rfl⟩ ⟨Nat.le_of_ble_eq_true rfl, Nat.le_of_ble_eq_true rfl⟩ rfl hl.1 rfl (Nat.le_of_ble_eq_true rfl) zd_Mo_trust_3 ⟨Nat.le_of_ble_eq_true rfl, Nat.le_of_ble_eq_true rfl⟩) hI (fun H locs hI => ?_)
  refine lv_if_eq hx hb (tgt := 57) zd_Mo_trust_6 (by decide) (fun c4 => ?_) (fun c4 => ?_)
  · replace h := zb_t c4 h
    exact B57 _ _ ls σ2 hI (lv_sub hl [] rfl) h
  · replace h := zb_f c4 h
    refine lv_iload_n hx hb zd_Mo_trust_9 rfl (lv_at hl 2 rfl) ?_
    refine lv_iconst (v := nI 1) hx hb zd_Mo_trust_10 (by decide) ?_
    refine lv_bipush (v := nI 6) hx hb zd_Mo_trust_11 (by decide) ?_
    obtain ⟨⟨r5, σ6⟩, e7, h⟩ := zb_o h
    refine za_calli (za_runS hx hb hml hown hts hK hI (zm_Mo_in e7) zj_Mo_105 ⟨rfl, rfl⟩ ⟨Nat.le_of_ble_eq_true rfl, Nat.le_of_ble_eq_true rfl⟩ rfl hl.1 rfl (Nat.le_of_ble_eq_true rfl) zd_Mo_trust_13 ⟨Nat.le_of_ble_eq_true rfl, Nat.le_of_ble_eq_true rfl⟩) hI (fun H locs hI => ?_)
    refine lv_if_eq hx hb (tgt := 57) zd_Mo_trust_16 (by decide) (fun c8 => ?_) (fun c8 => ?_)
    · replace h := zb_t c8 h
      exact B57 _ _ ls σ6 hI (lv_sub hl [] rfl) h
    · replace h := zb_f c8 h
      refine lv_iload_n hx hb zd_Mo_trust_19 rfl (lv_at hl 3 rfl) ?_
      refine lv_iconst (v := nI 0) hx hb zd_Mo_trust_20 (by decide) ?_
      refine lv_bipush (v := nI 31) hx hb zd_Mo_trust_21 (by decide) ?_
      obtain ⟨⟨r9, σ10⟩, e11, h⟩ := zb_o h
      refine za_calli (za_runS hx hb hml hown hts hK hI (zm_Mo_in e11) zj_Mo_105 ⟨rfl, rfl⟩ ⟨Nat.le_of_ble_eq_true rfl, Nat.le_of_ble_eq_true rfl⟩ rfl hl.1 rfl (Nat.le_of_ble_eq_true rfl) zd_Mo_trust_23 ⟨Nat.le_of_ble_eq_true rfl, Nat.le_of_ble_eq_true rfl⟩) hI (fun H locs hI => ?_)
      refine lv_if_eq hx hb (tgt := 57) zd_Mo_trust_26 (by decide) (fun c12 => ?_) (fun c12 => ?_)
      · replace h := zb_t c12 h
        exact B57 _ _ ls σ10 hI (lv_sub hl [] rfl) h
      · replace h := zb_f c12 h
        refine lv_iload hx hb zd_Mo_trust_29 (lv_at hl 5 rfl) ?_
        refine lv_iconst (v := nI 0) hx hb zd_Mo_trust_31 (by decide) ?_
        refine lv_bipush (v := nI 31) hx hb zd_Mo_trust_32 (by decide) ?_
        obtain ⟨⟨r13, σ14⟩, e15, h⟩ := zb_o h
        refine za_calli (za_runS hx hb hml hown hts hK hI (zm_Mo_in e15) zj_Mo_105 ⟨rfl, rfl⟩ ⟨Nat.le_of_ble_eq_true rfl, Nat.le_of_ble_eq_true rfl⟩ rfl hl.1 rfl (Nat.le_of_ble_eq_true rfl) zd_Mo_trust_34 ⟨Nat.le_of_ble_eq_true rfl, Nat.le_of_ble_eq_true rfl⟩) hI (fun H locs hI => ?_)
        refine lv_if_eq hx hb (tgt := 57) zd_Mo_trust_37 (by decide) (fun c16 => ?_) (fun c16 => ?_)
        · replace h := zb_t c16 h
          exact B57 _ _ ls σ14 hI (lv_sub hl [] rfl) h
        · replace h := zb_f c16 h
          refine lv_iload hx hb zd_Mo_trust_40 (lv_at hl 4 rfl) ?_
          refine lv_iconst (v := nI 0) hx hb zd_Mo_trust_42 (by decide) ?_
          refine lv_iconst (v := nI 5) hx hb zd_Mo_trust_43 (by decide) ?_
          obtain ⟨⟨r17, σ18⟩, e19, h⟩ := zb_o h
          refine za_calli (za_runS hx hb hml hown hts hK hI (zm_Mo_in e19) zj_Mo_105 ⟨rfl, rfl⟩ ⟨Nat.le_of_ble_eq_true rfl, Nat.le_of_ble_eq_true rfl⟩ rfl hl.1 rfl (Nat.le_of_ble_eq_true rfl) zd_Mo_trust_44 ⟨Nat.le_of_ble_eq_true rfl, Nat.le_of_ble_eq_true rfl⟩) hI (fun H locs hI => ?_)
          refine lv_if_eq hx hb (tgt := 57) zd_Mo_trust_47 (by decide) (fun c20 => ?_) (fun c20 => ?_)
          · replace h := zb_t c20 h
            exact B57 _ _ ls σ18 hI (lv_sub hl [] rfl) h
          · replace h := zb_f c20 h
            refine lv_aload_n hx hb zd_Mo_trust_50 rfl (lv_at hl 0 rfl) ?_
            obtain ⟨v22, e21, h⟩ := zb_o h
            refine za_geti hx hb hts hown hK hI zl_Mo_117 e21 zd_Mo_trust_51 ?_
            refine lv_if_eq hx hb (tgt := 59) zd_Mo_trust_54 (by decide) (fun c23 => ?_) (fun c23 => ?_)
            · replace h := zb_t c23 h
              refine lv_aload_n hx hb zd_Mo_trust_59 rfl (lv_at hl 0 rfl) ?_
              obtain ⟨b25, e24, h⟩ := zb_o h
              refine za_getr hx hb hts hown hK hI zl_Mo_7 e24 zd_Mo_trust_60 ?_
              refine lv_iload_n hx hb zd_Mo_trust_63 rfl (lv_at hl 1 rfl) ?_
              refine lv_iload_n hx hb zd_Mo_trust_64 rfl (lv_at hl 2 rfl) ?_
              obtain ⟨σ26, e27, h⟩ := zb_o h
              refine za_iast hx hb hK hI e27 zd_Mo_trust_65 (fun H locs hI => ?_)
              refine lv_aload_n hx hb zd_Mo_trust_66 rfl (lv_at hl 0 rfl) ?_
              obtain ⟨b29, e28, h⟩ := zb_o h
              refine za_getr hx hb hts hown hK hI zl_Mo_13 e28 zd_Mo_trust_67 ?_
              refine lv_iload_n hx hb zd_Mo_trust_70 rfl (lv_at hl 1 rfl) ?_
              refine lv_iload_n hx hb zd_Mo_trust_71 rfl (lv_at hl 3 rfl) ?_
              obtain ⟨σ30, e31, h⟩ := zb_o h
              refine za_iast hx hb hK hI e31 zd_Mo_trust_72 (fun H locs hI => ?_)
              refine lv_aload_n hx hb zd_Mo_trust_73 rfl (lv_at hl 0 rfl) ?_
              obtain ⟨b33, e32, h⟩ := zb_o h
              refine za_getr hx hb hts hown hK hI zl_Mo_16 e32 zd_Mo_trust_74 ?_
              refine lv_iload_n hx hb zd_Mo_trust_77 rfl (lv_at hl 1 rfl) ?_
              refine lv_iload hx hb zd_Mo_trust_78 (lv_at hl 4 rfl) ?_
              obtain ⟨σ34, e35, h⟩ := zb_o h
              refine za_iast hx hb hK hI e35 zd_Mo_trust_80 (fun H locs hI => ?_)
              refine lv_aload_n hx hb zd_Mo_trust_81 rfl (lv_at hl 0 rfl) ?_
              obtain ⟨b37, e36, h⟩ := zb_o h
              refine za_getr hx hb hts hown hK hI zl_Mo_19 e36 zd_Mo_trust_82 ?_
              refine lv_iload_n hx hb zd_Mo_trust_85 rfl (lv_at hl 1 rfl) ?_
              refine lv_iload hx hb zd_Mo_trust_86 (lv_at hl 5 rfl) ?_
              obtain ⟨σ38, e39, h⟩ := zb_o h
              refine za_iast hx hb hK hI e39 zd_Mo_trust_88 (fun H locs hI => ?_)
              refine lv_aload_n hx hb zd_Mo_trust_89 rfl (lv_at hl 0 rfl) ?_
              obtain ⟨_, g40, h⟩ := zb_o h
              obtain ⟨⟨r41, σ42⟩, e43, h⟩ := zb_o h
              refine za_callv (za_runV hx hb hml hown hts hK hI g40 (zm_Mo_table e43) zj_Mo_102 ⟨rfl, rfl⟩ ⟨Nat.le_of_ble_eq_true rfl, Nat.le_of_ble_eq_true rfl⟩ rfl hl.1 rfl (Nat.le_of_ble_eq_true rfl) zd_Mo_trust_90 ⟨Nat.le_of_ble_eq_true rfl, Nat.le_of_ble_eq_true rfl⟩) hI (fun H locs hI => ?_)
              refine lv_iconst (v := nI 1) hx hb zd_Mo_trust_93 (by decide) ?_
              exact za_zret hx hb hr hlk hI (by decide) h (Nat.le_of_ble_eq_true rfl) (Nat.le_of_ble_eq_true rfl) zd_Mo_trust_94
            · replace h := zb_f c23 h
              exact B57 _ _ ls σ18 hI (lv_sub hl [] rfl) h

def zf_Mo_place (ay0 : Nat) (xy1 : Int32) (xy2 : Int32) (xy3 : Int32) (σ : za_h) : Option (Int32 × za_h) :=
  (zg_r σ ay0 10 7).bind fun b2 =>
  (za_ld σ b2 0 xy1).bind fun v3 =>
  some ((((((nI 27) * xy1) + ((nI 9) * v3)) + ((nI 3) * xy2)) + xy3), σ)
set_option maxRecDepth 100000 in
set_option maxHeartbeats 4000000 in
theorem zm_Mo_place {l : Launch} {D : va_G} {ca : Nat → ClassId} {n0 : Nat} {ay0 : Nat} {xy1 : Int32} {xy2 : Int32} {xy3 : Int32} {σ σ' : za_h} {r : Int32} (h : zf_Mo_place ay0 xy1 xy2 xy3 σ = some (r, σ')) : Met l zy_Mo_place (za_wy zy_Mo_place zc_Mo_place 4 (some .int)) { frames := 0, cells := 0, slots := 0, locals := 0 } (za_Pc D ca n0 [.ref ay0, .int xy1, .int xy2, .int xy3] σ) (za_Qi D ca n0 r σ') 0 0 (za_A n0) := by
  refine za_met (by decide) (Nat.le_of_ble_eq_true rfl) ?_
  intro p e s m below meth c ls hx hb hml hr hlk hts hown hnm hK hI hl
  replace hown : s.vm.findClass zR_Mo = some m.cls := hown
  replace hl : lv_has ls 4 [(0, .ref ay0), (1, .int xy1), (2, .int xy2), (3, .int xy3)] := hl
  unfold zf_Mo_place at h
  refine lv_bipush (v := nI 27) hx hb zd_Mo_place_0 (by decide) ?_
  refine lv_iload_n hx hb zd_Mo_place_2 rfl (lv_at hl 1 rfl) ?_
  refine lv_imul hx hb zd_Mo_place_3 ?_
  refine lv_bipush (v := nI 9) hx hb zd_Mo_place_4 (by decide) ?_
  refine lv_aload_n hx hb zd_Mo_place_6 rfl (lv_at hl 0 rfl) ?_
  obtain ⟨b2, e1, h⟩ := zb_o h
  refine za_getr hx hb hts hown hK hI zl_Mo_26 e1 zd_Mo_place_7 ?_
  refine lv_iload_n hx hb zd_Mo_place_10 rfl (lv_at hl 1 rfl) ?_
  obtain ⟨v3, e4, h⟩ := zb_o h
  refine za_iald hx hb hK hI e4 zd_Mo_place_11 ?_
  refine lv_imul hx hb zd_Mo_place_12 ?_
  refine lv_iadd hx hb zd_Mo_place_13 ?_
  refine lv_iconst (v := nI 3) hx hb zd_Mo_place_14 (by decide) ?_
  refine lv_iload_n hx hb zd_Mo_place_15 rfl (lv_at hl 2 rfl) ?_
  refine lv_imul hx hb zd_Mo_place_16 ?_
  refine lv_iadd hx hb zd_Mo_place_17 ?_
  refine lv_iload_n hx hb zd_Mo_place_18 rfl (lv_at hl 3 rfl) ?_
  refine lv_iadd hx hb zd_Mo_place_19 ?_
  exact za_iret hx hb hr hlk hI h (Nat.le_of_ble_eq_true rfl) (Nat.le_of_ble_eq_true rfl) zd_Mo_place_20

def zf_Mo_has_26 (xs0 : Int32) (σ : za_h) : Option (Int32 × za_h) :=
  if xs0 = 0 ∨ xs0 = 1 then some (xs0, σ) else none

def zf_Mo_has (ay0 : Nat) (xy1 : Int32) (xy2 : Int32) (xy3 : Int32) (xy4 : Int32) (σ : za_h) : Option (Int32 × za_h) :=
  (zg_r σ ay0 10 12).bind fun b2 =>
  (zg_c σ ay0 10).bind fun _ =>
  (zf_Mo_place ay0 xy1 xy2 xy3 σ).bind fun (r4, σ5) =>
  (za_ld σ5 b2 0 r4).bind fun v7 =>
  if ((v7 >>> (xy4 &&& 31)) &&& (nI 1)) = (nI 1) then
  (zf_Mo_has_26 (nI 1) σ5)
  else
  (zf_Mo_has_26 (nI 0) σ5)
set_option maxRecDepth 100000 in
set_option maxHeartbeats 4000000 in
theorem zm_Mo_has {l : Launch} {D : va_G} {ca : Nat → ClassId} {n0 : Nat} {ay0 : Nat} {xy1 : Int32} {xy2 : Int32} {xy3 : Int32} {xy4 : Int32} {σ σ' : za_h} {r : Int32} (h : zf_Mo_has ay0 xy1 xy2 xy3 xy4 σ = some (r, σ')) : Met l zy_Mo_has (za_wy zy_Mo_has zc_Mo_has 5 (some .boolean)) { frames := 1, cells := 0, slots := 0, locals := 23 } (za_Pc D ca n0 [.ref ay0, .int xy1, .int xy2, .int xy3, .int xy4] σ) (za_Qi D ca n0 r σ') 0 0 (za_A n0) := by
  refine za_met (by decide) (Nat.le_of_ble_eq_true rfl) ?_
  intro p e s m below meth c ls hx hb hml hr hlk hts hown hnm hK hI hl
  replace hown : s.vm.findClass zR_Mo = some m.cls := hown
  replace hl : lv_has ls 5 [(0, .ref ay0), (1, .int xy1), (2, .int xy2), (3, .int xy3), (4, .int xy4)] := hl
  have B26 : ∀ (H : Heap) (locs : List Loc) (ls : Array Slot) (xs0 : Int32) (σ : za_h), za_I D ca n0 s σ H locs → lv_has ls 5 [] → zf_Mo_has_26 xs0 σ = some (r, σ') → W p l e ({ frames := 1, cells := 0, slots := 0, locals := 23 }) s m ([.ref ay0, .int xy1, .int xy2, .int xy3, .int xy4] : List Value).toArray below meth c H locs 0 0 (MQ below (za_Qi D ca n0 r σ') ([.ref ay0, .int xy1, .int xy2, .int xy3, .int xy4] : List Value).toArray s 0 0 (za_A n0)) (F0 m 26 ls [.int xs0]) := by
    intro H locs ls xs0 σ hI hl h
    unfold zf_Mo_has_26 at h
    obtain ⟨g1, h⟩ := zb_g h
    exact za_zret hx hb hr hlk hI g1 h (Nat.le_of_ble_eq_true rfl) (Nat.le_of_ble_eq_true rfl) zd_Mo_has_26
  unfold zf_Mo_has at h
  refine lv_aload_n hx hb zd_Mo_has_0 rfl (lv_at hl 0 rfl) ?_
  obtain ⟨b2, e1, h⟩ := zb_o h
  refine za_getr hx hb hts hown hK hI zl_Mo_41 e1 zd_Mo_has_1 ?_
  refine lv_aload_n hx hb zd_Mo_has_4 rfl (lv_at hl 0 rfl) ?_
  refine lv_iload_n hx hb zd_Mo_has_5 rfl (lv_at hl 1 rfl) ?_
  refine lv_iload_n hx hb zd_Mo_has_6 rfl (lv_at hl 2 rfl) ?_
  refine lv_iload_n hx hb zd_Mo_has_7 rfl (lv_at hl 3 rfl) ?_
  obtain ⟨_, g3, h⟩ := zb_o h
  obtain ⟨⟨r4, σ5⟩, e6, h⟩ := zb_o h
  refine za_calli (za_runV hx hb hml hown hts hK hI g3 (zm_Mo_place e6) zj_Mo_121 ⟨rfl, rfl⟩ ⟨Nat.le_of_ble_eq_true rfl, Nat.le_of_ble_eq_true rfl⟩ rfl hl.1 rfl (Nat.le_of_ble_eq_true rfl) zd_Mo_has_8 ⟨Nat.le_of_ble_eq_true rfl, Nat.le_of_ble_eq_true rfl⟩) hI (fun H locs hI => ?_)
  obtain ⟨v7, e8, h⟩ := zb_o h
  refine za_iald hx hb hK hI e8 zd_Mo_has_11 ?_
  refine lv_iload hx hb zd_Mo_has_12 (lv_at hl 4 rfl) ?_
  refine lv_ishr hx hb zd_Mo_has_14 ?_
  refine lv_iconst (v := nI 1) hx hb zd_Mo_has_15 (by decide) ?_
  refine lv_iand hx hb zd_Mo_has_16 ?_
  refine lv_iconst (v := nI 1) hx hb zd_Mo_has_17 (by decide) ?_
  refine lv_icmp_ne hx hb (tgt := 25) zd_Mo_has_18 (by decide) (fun c9 => ?_) (fun c9 => ?_)
  · replace h := zb_f c9 h
    refine lv_iconst (v := nI 0) hx hb zd_Mo_has_25 (by decide) ?_
    exact B26 _ _ ls (nI 0) σ5 hI (lv_sub hl [] rfl) h
  · replace h := zb_t c9 h
    refine lv_iconst (v := nI 1) hx hb zd_Mo_has_21 (by decide) ?_
    refine lv_goto hx hb (tgt := 26) zd_Mo_has_22 (by decide) ?_
    exact B26 _ _ ls (nI 1) σ5 hI (lv_sub hl [] rfl) h

def zf_Mo_put_49 (xs0 : Int32) (σ : za_h) : Option (Int32 × za_h) :=
  if xs0 = 0 ∨ xs0 = 1 then some (xs0, σ) else none

def zf_Mo_put (ay0 : Nat) (xy1 : Int32) (xy2 : Int32) (xy3 : Int32) (xy4 : Int32) (σ : za_h) : Option (Int32 × za_h) :=
  (zg_c σ ay0 10).bind fun _ =>
  (zf_Mo_place ay0 xy1 xy2 xy3 σ).bind fun (r2, σ3) =>
  (zg_r σ3 ay0 10 12).bind fun b6 =>
  (za_ld σ3 b6 0 r2).bind fun v7 =>
  (zg_r σ3 ay0 10 12).bind fun b10 =>
  (za_st σ3 b10 0 r2 (v7 ||| ((nI 1) <<< (xy4 &&& 31)))).bind fun σ11 =>
  (zg_r σ11 ay0 10 12).bind fun b14 =>
  (za_ld σ11 b14 0 r2).bind fun v15 =>
  if v15 = v7 then
  (zf_Mo_put_49 (nI 0) σ11)
  else
  (zf_Mo_put_49 (nI 1) σ11)
set_option maxRecDepth 100000 in
set_option maxHeartbeats 4000000 in
theorem zm_Mo_put {l : Launch} {D : va_G} {ca : Nat → ClassId} {n0 : Nat} {ay0 : Nat} {xy1 : Int32} {xy2 : Int32} {xy3 : Int32} {xy4 : Int32} {σ σ' : za_h} {r : Int32} (h : zf_Mo_put ay0 xy1 xy2 xy3 xy4 σ = some (r, σ')) : Met l zy_Mo_put (za_wy zy_Mo_put zc_Mo_put 7 (some .boolean)) { frames := 1, cells := 0, slots := 0, locals := 23 } (za_Pc D ca n0 [.ref ay0, .int xy1, .int xy2, .int xy3, .int xy4] σ) (za_Qi D ca n0 r σ') 0 0 (za_A n0) := by
  refine za_met (by decide) (Nat.le_of_ble_eq_true rfl) ?_
  intro p e s m below meth c ls hx hb hml hr hlk hts hown hnm hK hI hl
  replace hown : s.vm.findClass zR_Mo = some m.cls := hown
  replace hl : lv_has ls 7 [(0, .ref ay0), (1, .int xy1), (2, .int xy2), (3, .int xy3), (4, .int xy4)] := hl
  have B49 : ∀ (H : Heap) (locs : List Loc) (ls : Array Slot) (xs0 : Int32) (σ : za_h), za_I D ca n0 s σ H locs → lv_has ls 7 [] → zf_Mo_put_49 xs0 σ = some (r, σ') → W p l e ({ frames := 1, cells := 0, slots := 0, locals := 23 }) s m ([.ref ay0, .int xy1, .int xy2, .int xy3, .int xy4] : List Value).toArray below meth c H locs 0 0 (MQ below (za_Qi D ca n0 r σ') ([.ref ay0, .int xy1, .int xy2, .int xy3, .int xy4] : List Value).toArray s 0 0 (za_A n0)) (F0 m 49 ls [.int xs0]) := by
    intro H locs ls xs0 σ hI hl h
    unfold zf_Mo_put_49 at h
    obtain ⟨g1, h⟩ := zb_g h
    exact za_zret hx hb hr hlk hI g1 h (Nat.le_of_ble_eq_true rfl) (Nat.le_of_ble_eq_true rfl) zd_Mo_put_49
  unfold zf_Mo_put at h
  refine lv_aload_n hx hb zd_Mo_put_0 rfl (lv_at hl 0 rfl) ?_
  refine lv_iload_n hx hb zd_Mo_put_1 rfl (lv_at hl 1 rfl) ?_
  refine lv_iload_n hx hb zd_Mo_put_2 rfl (lv_at hl 2 rfl) ?_
  refine lv_iload_n hx hb zd_Mo_put_3 rfl (lv_at hl 3 rfl) ?_
  obtain ⟨_, g1, h⟩ := zb_o h
  obtain ⟨⟨r2, σ3⟩, e4, h⟩ := zb_o h
  refine za_calli (za_runV hx hb hml hown hts hK hI g1 (zm_Mo_place e4) zj_Mo_121 ⟨rfl, rfl⟩ ⟨Nat.le_of_ble_eq_true rfl, Nat.le_of_ble_eq_true rfl⟩ rfl hl.1 rfl (Nat.le_of_ble_eq_true rfl) zd_Mo_put_4 ⟨Nat.le_of_ble_eq_true rfl, Nat.le_of_ble_eq_true rfl⟩) hI (fun H locs hI => ?_)
  refine lv_istore (lv' := [(5, .int r2), (0, .ref ay0), (1, .int xy1), (2, .int xy2), (3, .int xy3), (4, .int xy4)]) hx hb zd_Mo_put_7 hl (Nat.le_of_ble_eq_true rfl) rfl (fun ls hl => ?_)
  refine lv_aload_n hx hb zd_Mo_put_9 rfl (lv_at hl 1 rfl) ?_
  obtain ⟨b6, e5, h⟩ := zb_o h
  refine za_getr hx hb hts hown hK hI zl_Mo_41 e5 zd_Mo_put_10 ?_
  refine lv_iload hx hb zd_Mo_put_13 (lv_at hl 0 rfl) ?_
  obtain ⟨v7, e8, h⟩ := zb_o h
  refine za_iald hx hb hK hI e8 zd_Mo_put_15 ?_
  refine lv_istore (lv' := [(6, .int v7), (5, .int r2), (0, .ref ay0), (1, .int xy1), (2, .int xy2), (3, .int xy3), (4, .int xy4)]) hx hb zd_Mo_put_16 hl (Nat.le_of_ble_eq_true rfl) rfl (fun ls hl => ?_)
  refine lv_aload_n hx hb zd_Mo_put_18 rfl (lv_at hl 2 rfl) ?_
  obtain ⟨b10, e9, h⟩ := zb_o h
  refine za_getr hx hb hts hown hK hI zl_Mo_41 e9 zd_Mo_put_19 ?_
  refine lv_iload hx hb zd_Mo_put_22 (lv_at hl 1 rfl) ?_
  refine lv_iload hx hb zd_Mo_put_24 (lv_at hl 0 rfl) ?_
  refine lv_iconst (v := nI 1) hx hb zd_Mo_put_26 (by decide) ?_
  refine lv_iload hx hb zd_Mo_put_27 (lv_at hl 6 rfl) ?_
  refine lv_ishl hx hb zd_Mo_put_29 ?_
  refine lv_ior hx hb zd_Mo_put_30 ?_
  obtain ⟨σ11, e12, h⟩ := zb_o h
  refine za_iast hx hb hK hI e12 zd_Mo_put_31 (fun H locs hI => ?_)
  refine lv_aload_n hx hb zd_Mo_put_32 rfl (lv_at hl 2 rfl) ?_
  obtain ⟨b14, e13, h⟩ := zb_o h
  refine za_getr hx hb hts hown hK hI zl_Mo_41 e13 zd_Mo_put_33 ?_
  refine lv_iload hx hb zd_Mo_put_36 (lv_at hl 1 rfl) ?_
  obtain ⟨v15, e16, h⟩ := zb_o h
  refine za_iald hx hb hK hI e16 zd_Mo_put_38 ?_
  refine lv_iload hx hb zd_Mo_put_39 (lv_at hl 0 rfl) ?_
  refine lv_icmp_eq hx hb (tgt := 48) zd_Mo_put_41 (by decide) (fun c17 => ?_) (fun c17 => ?_)
  · replace h := zb_t c17 h
    refine lv_iconst (v := nI 0) hx hb zd_Mo_put_48 (by decide) ?_
    exact B49 _ _ ls (nI 0) σ11 hI (lv_sub hl [] rfl) h
  · replace h := zb_f c17 h
    refine lv_iconst (v := nI 1) hx hb zd_Mo_put_44 (by decide) ?_
    refine lv_goto hx hb (tgt := 49) zd_Mo_put_45 (by decide) ?_
    exact B49 _ _ ls (nI 1) σ11 hI (lv_sub hl [] rfl) h

def zf_Mo_nodes_123 (k6 : Nat → Int32 → Int32 → Int32 → Int32 → Int32 → Int32 → za_h → Option (Int32 × za_h)) (a0 : Nat) (x1 : Int32) (x2 : Int32) (x3 : Int32) (x4 : Int32) (x6 : Int32) (xs0 : Int32) (σ : za_h) : Option (Int32 × za_h) :=
  k6 a0 x1 x2 x3 x4 xs0 (x6 + nI 1) σ

def zf_Mo_nodes_104 (k6 : Nat → Int32 → Int32 → Int32 → Int32 → Int32 → Int32 → za_h → Option (Int32 × za_h)) (a0 : Nat) (x1 : Int32) (x2 : Int32) (x3 : Int32) (x4 : Int32) (x5 : Int32) (x6 : Int32) (xs0 : Int32) (σ : za_h) : Option (Int32 × za_h) :=
  if xs0 = 0 then
  (zf_Mo_nodes_123 k6 a0 x1 x2 x3 x4 x6 x5 σ)
  else
  (zf_Mo_nodes_123 k6 a0 x1 x2 x3 x4 x6 (x5 ||| ((nI 1) <<< (x6 &&& 31))) σ)

def zf_Mo_nodes_74 (k6 : Nat → Int32 → Int32 → Int32 → Int32 → Int32 → Int32 → za_h → Option (Int32 × za_h)) (a0 : Nat) (x1 : Int32) (x2 : Int32) (x3 : Int32) (x4 : Int32) (x5 : Int32) (x6 : Int32) (x7 : Int32) (as0 : Nat) (xs1 : Int32) (xs2 : Int32) (σ : za_h) : Option (Int32 × za_h) :=
  (za_ld σ as0 0 (xs1 + xs2)).bind fun v1 =>
  if x6 = x1 then
  (zf_Mo_nodes_104 k6 a0 x1 x2 x3 x4 x5 x6 x7 σ)
  else
  (if ((v1 >>> (x3 &&& 31)) &&& (nI 1)) = (nI 1) then
  (zf_Mo_nodes_104 k6 a0 x1 x2 x3 x4 x5 x6 (nI 1) σ)
  else
  (zf_Mo_nodes_104 k6 a0 x1 x2 x3 x4 x5 x6 (nI 0) σ))

def zf_Mo_nodes_44 (k6 : Nat → Int32 → Int32 → Int32 → Int32 → Int32 → Int32 → za_h → Option (Int32 × za_h)) (a0 : Nat) (x1 : Int32) (x2 : Int32) (x3 : Int32) (x4 : Int32) (x5 : Int32) (x6 : Int32) (xs0 : Int32) (σ : za_h) : Option (Int32 × za_h) :=
  (zg_r σ a0 10 13).bind fun b2 =>
  if x4 = 0 then
  (zf_Mo_nodes_74 k6 a0 x1 x2 x3 x4 x5 x6 xs0 b2 ((((nI 30) * x1) + ((nI 6) * x6)) + ((nI 2) * x2)) (nI 0) σ)
  else
  (zf_Mo_nodes_74 k6 a0 x1 x2 x3 x4 x5 x6 xs0 b2 ((((nI 30) * x1) + ((nI 6) * x6)) + ((nI 2) * x2)) (nI 1) σ)

def zf_Mo_nodes_39 (k6 : Nat → Int32 → Int32 → Int32 → Int32 → Int32 → Int32 → za_h → Option (Int32 × za_h)) (a0 : Nat) (x1 : Int32) (x2 : Int32) (x3 : Int32) (x4 : Int32) (x5 : Int32) (x6 : Int32) (σ : za_h) : Option (Int32 × za_h) :=
  zf_Mo_nodes_44 k6 a0 x1 x2 x3 x4 x5 x6 (nI 1) σ

def zf_Mo_nodes_43 (k6 : Nat → Int32 → Int32 → Int32 → Int32 → Int32 → Int32 → za_h → Option (Int32 × za_h)) (a0 : Nat) (x1 : Int32) (x2 : Int32) (x3 : Int32) (x4 : Int32) (x5 : Int32) (x6 : Int32) (σ : za_h) : Option (Int32 × za_h) :=
  zf_Mo_nodes_44 k6 a0 x1 x2 x3 x4 x5 x6 (nI 0) σ

def zf_Mo_nodes_6 : Nat → Nat → Int32 → Int32 → Int32 → Int32 → Int32 → Int32 → za_h → Option (Int32 × za_h)
  | 0, _, _, _, _, _, _, _, _ => none
  | n + 1, a0, x1, x2, x3, x4, x5, x6, σ =>
  if (nI 5) ≤ x6 then
  (some (x5, σ))
  else
  ((zg_c σ a0 10).bind fun _ =>
  (zf_Mo_has a0 x1 x2 (nI 1) x3 σ).bind fun (r3, σ4) =>
  if r3 = 0 then
  (if x4 = 0 then
  ((zg_c σ4 a0 10).bind fun _ =>
  (zf_Mo_has a0 x1 x2 (nI 0) x3 σ4).bind fun (r9, σ10) =>
  if r9 = 0 then
  (zf_Mo_nodes_43 (zf_Mo_nodes_6 n) a0 x1 x2 x3 x4 x5 x6 σ10)
  else
  (zf_Mo_nodes_39 (zf_Mo_nodes_6 n) a0 x1 x2 x3 x4 x5 x6 σ10))
  else
  (zf_Mo_nodes_43 (zf_Mo_nodes_6 n) a0 x1 x2 x3 x4 x5 x6 σ4))
  else
  (zf_Mo_nodes_39 (zf_Mo_nodes_6 n) a0 x1 x2 x3 x4 x5 x6 σ4))

def zf_Mo_nodes (ay0 : Nat) (xy1 : Int32) (xy2 : Int32) (xy3 : Int32) (xy4 : Int32) (σ : za_h) : Option (Int32 × za_h) :=
  zf_Mo_nodes_6 6 ay0 xy1 xy2 xy3 xy4 (nI 0) (nI 0) σ
set_option maxRecDepth 100000 in
set_option maxHeartbeats 4000000 in
theorem zm_Mo_nodes {l : Launch} {D : va_G} {ca : Nat → ClassId} {n0 : Nat} {ay0 : Nat} {xy1 : Int32} {xy2 : Int32} {xy3 : Int32} {xy4 : Int32} {σ σ' : za_h} {r : Int32} (h : zf_Mo_nodes ay0 xy1 xy2 xy3 xy4 σ = some (r, σ')) : Met l zy_Mo_nodes (za_wy zy_Mo_nodes zc_Mo_nodes 10 (some .int)) { frames := 2, cells := 0, slots := 0, locals := 47 } (za_Pc D ca n0 [.ref ay0, .int xy1, .int xy2, .int xy3, .int xy4] σ) (za_Qi D ca n0 r σ') 0 0 (za_A n0) := by
  refine za_met (by decide) (Nat.le_of_ble_eq_true rfl) ?_
  intro p e s m below meth c ls hx hb hml hr hlk hts hown hnm hK hI hl
  replace hown : s.vm.findClass zR_Mo = some m.cls := hown
  replace hl : lv_has ls 10 [(0, .ref ay0), (1, .int xy1), (2, .int xy2), (3, .int xy3), (4, .int xy4)] := hl
  have B123 : ∀ (k6 : Nat → Int32 → Int32 → Int32 → Int32 → Int32 → Int32 → za_h → Option (Int32 × za_h)), (∀ (H : Heap) (locs : List Loc) (ls : Array Slot) (a0 : Nat) (x1 : Int32) (x2 : Int32) (x3 : Int32) (x4 : Int32) (x5 : Int32) (x6 : Int32) (σ : za_h), za_I D ca n0 s σ H locs → lv_has ls 10 [(0, .ref a0), (1, .int x1), (2, .int x2), (3, .int x3), (4, .int x4), (5, .int x5), (6, .int x6)] → k6 a0 x1 x2 x3 x4 x5 x6 σ = some (r, σ') → W p l e ({ frames := 2, cells := 0, slots := 0, locals := 47 }) s m ([.ref ay0, .int xy1, .int xy2, .int xy3, .int xy4] : List Value).toArray below meth c H locs 0 0 (MQ below (za_Qi D ca n0 r σ') ([.ref ay0, .int xy1, .int xy2, .int xy3, .int xy4] : List Value).toArray s 0 0 (za_A n0)) (F0 m 6 ls [])) → ∀ (H : Heap) (locs : List Loc) (ls : Array Slot) (a0 : Nat) (x1 : Int32) (x2 : Int32) (x3 : Int32) (x4 : Int32) (x6 : Int32) (xs0 : Int32) (σ : za_h), za_I D ca n0 s σ H locs → lv_has ls 10 [(0, .ref a0), (1, .int x1), (2, .int x2), (3, .int x3), (4, .int x4), (6, .int x6)] → zf_Mo_nodes_123 k6 a0 x1 x2 x3 x4 x6 xs0 σ = some (r, σ') → W p l e ({ frames := 2, cells := 0, slots := 0, locals := 47 }) s m ([.ref ay0, .int xy1, .int xy2, .int xy3, .int xy4] : List Value).toArray below meth c H locs 0 0 (MQ below (za_Qi D ca n0 r σ') ([.ref ay0, .int xy1, .int xy2, .int xy3, .int xy4] : List Value).toArray s 0 0 (za_A n0)) (F0 m 123 ls [.int xs0]) := by
    intro k6 hk6 H locs ls a0 x1 x2 x3 x4 x6 xs0 σ hI hl h
    unfold zf_Mo_nodes_123 at h
    refine lv_istore (lv' := [(5, .int xs0), (0, .ref a0), (1, .int x1), (2, .int x2), (3, .int x3), (4, .int x4), (6, .int x6)]) hx hb zd_Mo_nodes_123 hl (Nat.le_of_ble_eq_true rfl) rfl (fun ls hl => ?_)
    refine lv_iinc (k := 6) (v := (x6 + nI 1)) (lv' := [(6, .int (x6 + nI 1)), (5, .int xs0), (0, .ref a0), (1, .int x1), (2, .int x2), (3, .int x3), (4, .int x4)]) hx hb zd_Mo_nodes_125 hl rfl rfl (Nat.le_of_ble_eq_true rfl) rfl (fun ls hl => ?_)
    refine lv_goto hx hb (tgt := 6) zd_Mo_nodes_128 (by decide) ?_
    exact hk6 _ _ ls a0 x1 x2 x3 x4 xs0 (x6 + nI 1) σ hI (lv_sub hl [2, 3, 4, 5, 6, 1, 0] rfl) h
  have B104 : ∀ (k6 : Nat → Int32 → Int32 → Int32 → Int32 → Int32 → Int32 → za_h → Option (Int32 × za_h)), (∀ (H : Heap) (locs : List Loc) (ls : Array Slot) (a0 : Nat) (x1 : Int32) (x2 : Int32) (x3 : Int32) (x4 : Int32) (x5 : Int32) (x6 : Int32) (σ : za_h), za_I D ca n0 s σ H locs → lv_has ls 10 [(0, .ref a0), (1, .int x1), (2, .int x2), (3, .int x3), (4, .int x4), (5, .int x5), (6, .int x6)] → k6 a0 x1 x2 x3 x4 x5 x6 σ = some (r, σ') → W p l e ({ frames := 2, cells := 0, slots := 0, locals := 47 }) s m ([.ref ay0, .int xy1, .int xy2, .int xy3, .int xy4] : List Value).toArray below meth c H locs 0 0 (MQ below (za_Qi D ca n0 r σ') ([.ref ay0, .int xy1, .int xy2, .int xy3, .int xy4] : List Value).toArray s 0 0 (za_A n0)) (F0 m 6 ls [])) → ∀ (H : Heap) (locs : List Loc) (ls : Array Slot) (a0 : Nat) (x1 : Int32) (x2 : Int32) (x3 : Int32) (x4 : Int32) (x5 : Int32) (x6 : Int32) (xs0 : Int32) (σ : za_h), za_I D ca n0 s σ H locs → lv_has ls 10 [(0, .ref a0), (1, .int x1), (2, .int x2), (3, .int x3), (4, .int x4), (5, .int x5), (6, .int x6)] → zf_Mo_nodes_104 k6 a0 x1 x2 x3 x4 x5 x6 xs0 σ = some (r, σ') → W p l e ({ frames := 2, cells := 0, slots := 0, locals := 47 }) s m ([.ref ay0, .int xy1, .int xy2, .int xy3, .int xy4] : List Value).toArray below meth c H locs 0 0 (MQ below (za_Qi D ca n0 r σ') ([.ref ay0, .int xy1, .int xy2, .int xy3, .int xy4] : List Value).toArray s 0 0 (za_A n0)) (F0 m 104 ls [.int xs0]) := by
    intro k6 hk6 H locs ls a0 x1 x2 x3 x4 x5 x6 xs0 σ hI hl h
    unfold zf_Mo_nodes_104 at h
    refine lv_istore (lv' := [(9, .int xs0), (0, .ref a0), (1, .int x1), (2, .int x2), (3, .int x3), (4, .int x4), (5, .int x5), (6, .int x6)]) hx hb zd_Mo_nodes_104 hl (Nat.le_of_ble_eq_true rfl) rfl (fun ls hl => ?_)
    refine lv_iload hx hb zd_Mo_nodes_106 (lv_at hl 0 rfl) ?_
    refine lv_if_eq hx hb (tgt := 121) zd_Mo_nodes_108 (by decide) (fun c1 => ?_) (fun c1 => ?_)
    · replace h := zb_t c1 h
      refine lv_iload hx hb zd_Mo_nodes_121 (lv_at hl 6 rfl) ?_
      exact B123 _ hk6 _ _ ls a0 x1 x2 x3 x4 x6 x5 σ hI (lv_sub hl [1, 2, 3, 4, 5, 7] rfl) h
    · replace h := zb_f c1 h
      refine lv_iload hx hb zd_Mo_nodes_111 (lv_at hl 6 rfl) ?_
      refine lv_iconst (v := nI 1) hx hb zd_Mo_nodes_113 (by decide) ?_
      refine lv_iload hx hb zd_Mo_nodes_114 (lv_at hl 7 rfl) ?_
      refine lv_ishl hx hb zd_Mo_nodes_116 ?_
      refine lv_ior hx hb zd_Mo_nodes_117 ?_
      refine lv_goto hx hb (tgt := 123) zd_Mo_nodes_118 (by decide) ?_
      exact B123 _ hk6 _ _ ls a0 x1 x2 x3 x4 x6 (x5 ||| ((nI 1) <<< (x6 &&& 31))) σ hI (lv_sub hl [1, 2, 3, 4, 5, 7] rfl) h
  have B74 : ∀ (k6 : Nat → Int32 → Int32 → Int32 → Int32 → Int32 → Int32 → za_h → Option (Int32 × za_h)), (∀ (H : Heap) (locs : List Loc) (ls : Array Slot) (a0 : Nat) (x1 : Int32) (x2 : Int32) (x3 : Int32) (x4 : Int32) (x5 : Int32) (x6 : Int32) (σ : za_h), za_I D ca n0 s σ H locs → lv_has ls 10 [(0, .ref a0), (1, .int x1), (2, .int x2), (3, .int x3), (4, .int x4), (5, .int x5), (6, .int x6)] → k6 a0 x1 x2 x3 x4 x5 x6 σ = some (r, σ') → W p l e ({ frames := 2, cells := 0, slots := 0, locals := 47 }) s m ([.ref ay0, .int xy1, .int xy2, .int xy3, .int xy4] : List Value).toArray below meth c H locs 0 0 (MQ below (za_Qi D ca n0 r σ') ([.ref ay0, .int xy1, .int xy2, .int xy3, .int xy4] : List Value).toArray s 0 0 (za_A n0)) (F0 m 6 ls [])) → ∀ (H : Heap) (locs : List Loc) (ls : Array Slot) (a0 : Nat) (x1 : Int32) (x2 : Int32) (x3 : Int32) (x4 : Int32) (x5 : Int32) (x6 : Int32) (x7 : Int32) (as0 : Nat) (xs1 : Int32) (xs2 : Int32) (σ : za_h), za_I D ca n0 s σ H locs → lv_has ls 10 [(0, .ref a0), (1, .int x1), (2, .int x2), (3, .int x3), (4, .int x4), (5, .int x5), (6, .int x6), (7, .int x7)] → zf_Mo_nodes_74 k6 a0 x1 x2 x3 x4 x5 x6 x7 as0 xs1 xs2 σ = some (r, σ') → W p l e ({ frames := 2, cells := 0, slots := 0, locals := 47 }) s m ([.ref ay0, .int xy1, .int xy2, .int xy3, .int xy4] : List Value).toArray below meth c H locs 0 0 (MQ below (za_Qi D ca n0 r σ') ([.ref ay0, .int xy1, .int xy2, .int xy3, .int xy4] : List Value).toArray s 0 0 (za_A n0)) (F0 m 74 ls [.int xs2, .int xs1, .ref as0]) := by
    intro k6 hk6 H locs ls a0 x1 x2 x3 x4 x5 x6 x7 as0 xs1 xs2 σ hI hl h
    unfold zf_Mo_nodes_74 at h
    refine lv_iadd hx hb zd_Mo_nodes_74 ?_
    obtain ⟨v1, e2, h⟩ := zb_o h
    refine za_iald hx hb hK hI e2 zd_Mo_nodes_75 ?_
    refine lv_istore (lv' := [(8, .int v1), (0, .ref a0), (1, .int x1), (2, .int x2), (3, .int x3), (4, .int x4), (5, .int x5), (6, .int x6), (7, .int x7)]) hx hb zd_Mo_nodes_76 hl (Nat.le_of_ble_eq_true rfl) rfl (fun ls hl => ?_)
    refine lv_iload hx hb zd_Mo_nodes_78 (lv_at hl 7 rfl) ?_
    refine lv_iload_n hx hb zd_Mo_nodes_80 rfl (lv_at hl 2 rfl) ?_
    refine lv_icmp_ne hx hb (tgt := 89) zd_Mo_nodes_81 (by decide) (fun c3 => ?_) (fun c3 => ?_)
    · replace h := zb_f c3 h
      refine lv_iload hx hb zd_Mo_nodes_89 (lv_at hl 0 rfl) ?_
      refine lv_iload_n hx hb zd_Mo_nodes_91 rfl (lv_at hl 4 rfl) ?_
      refine lv_ishr hx hb zd_Mo_nodes_92 ?_
      refine lv_iconst (v := nI 1) hx hb zd_Mo_nodes_93 (by decide) ?_
      refine lv_iand hx hb zd_Mo_nodes_94 ?_
      refine lv_iconst (v := nI 1) hx hb zd_Mo_nodes_95 (by decide) ?_
      refine lv_icmp_ne hx hb (tgt := 103) zd_Mo_nodes_96 (by decide) (fun c4 => ?_) (fun c4 => ?_)
      · replace h := zb_f c4 h
        refine lv_iconst (v := nI 0) hx hb zd_Mo_nodes_103 (by decide) ?_
        exact B104 _ hk6 _ _ ls a0 x1 x2 x3 x4 x5 x6 (nI 0) σ hI (lv_sub hl [1, 2, 3, 4, 5, 6, 7] rfl) h
      · replace h := zb_t c4 h
        refine lv_iconst (v := nI 1) hx hb zd_Mo_nodes_99 (by decide) ?_
        refine lv_goto hx hb (tgt := 104) zd_Mo_nodes_100 (by decide) ?_
        exact B104 _ hk6 _ _ ls a0 x1 x2 x3 x4 x5 x6 (nI 1) σ hI (lv_sub hl [1, 2, 3, 4, 5, 6, 7] rfl) h
    · replace h := zb_t c3 h
      refine lv_iload hx hb zd_Mo_nodes_84 (lv_at hl 8 rfl) ?_
      refine lv_goto hx hb (tgt := 104) zd_Mo_nodes_86 (by decide) ?_
      exact B104 _ hk6 _ _ ls a0 x1 x2 x3 x4 x5 x6 x7 σ hI (lv_sub hl [1, 2, 3, 4, 5, 6, 7] rfl) h
  have B44 : ∀ (k6 : Nat → Int32 → Int32 → Int32 → Int32 → Int32 → Int32 → za_h → Option (Int32 × za_h)), (∀ (H : Heap) (locs : List Loc) (ls : Array Slot) (a0 : Nat) (x1 : Int32) (x2 : Int32) (x3 : Int32) (x4 : Int32) (x5 : Int32) (x6 : Int32) (σ : za_h), za_I D ca n0 s σ H locs → lv_has ls 10 [(0, .ref a0), (1, .int x1), (2, .int x2), (3, .int x3), (4, .int x4), (5, .int x5), (6, .int x6)] → k6 a0 x1 x2 x3 x4 x5 x6 σ = some (r, σ') → W p l e ({ frames := 2, cells := 0, slots := 0, locals := 47 }) s m ([.ref ay0, .int xy1, .int xy2, .int xy3, .int xy4] : List Value).toArray below meth c H locs 0 0 (MQ below (za_Qi D ca n0 r σ') ([.ref ay0, .int xy1, .int xy2, .int xy3, .int xy4] : List Value).toArray s 0 0 (za_A n0)) (F0 m 6 ls [])) → ∀ (H : Heap) (locs : List Loc) (ls : Array Slot) (a0 : Nat) (x1 : Int32) (x2 : Int32) (x3 : Int32) (x4 : Int32) (x5 : Int32) (x6 : Int32) (xs0 : Int32) (σ : za_h), za_I D ca n0 s σ H locs → lv_has ls 10 [(0, .ref a0), (1, .int x1), (2, .int x2), (3, .int x3), (4, .int x4), (5, .int x5), (6, .int x6)] → zf_Mo_nodes_44 k6 a0 x1 x2 x3 x4 x5 x6 xs0 σ = some (r, σ') → W p l e ({ frames := 2, cells := 0, slots := 0, locals := 47 }) s m ([.ref ay0, .int xy1, .int xy2, .int xy3, .int xy4] : List Value).toArray below meth c H locs 0 0 (MQ below (za_Qi D ca n0 r σ') ([.ref ay0, .int xy1, .int xy2, .int xy3, .int xy4] : List Value).toArray s 0 0 (za_A n0)) (F0 m 44 ls [.int xs0]) := by
    intro k6 hk6 H locs ls a0 x1 x2 x3 x4 x5 x6 xs0 σ hI hl h
    unfold zf_Mo_nodes_44 at h
    refine lv_istore (lv' := [(7, .int xs0), (0, .ref a0), (1, .int x1), (2, .int x2), (3, .int x3), (4, .int x4), (5, .int x5), (6, .int x6)]) hx hb zd_Mo_nodes_44 hl (Nat.le_of_ble_eq_true rfl) rfl (fun ls hl => ?_)
    refine lv_aload_n hx hb zd_Mo_nodes_46 rfl (lv_at hl 1 rfl) ?_
    obtain ⟨b2, e1, h⟩ := zb_o h
    refine za_getr hx hb hts hown hK hI zl_Mo_44 e1 zd_Mo_nodes_47 ?_
    refine lv_bipush (v := nI 30) hx hb zd_Mo_nodes_50 (by decide) ?_
    refine lv_iload_n hx hb zd_Mo_nodes_52 rfl (lv_at hl 2 rfl) ?_
    refine lv_imul hx hb zd_Mo_nodes_53 ?_
    refine lv_bipush (v := nI 6) hx hb zd_Mo_nodes_54 (by decide) ?_
    refine lv_iload hx hb zd_Mo_nodes_56 (lv_at hl 7 rfl) ?_
    refine lv_imul hx hb zd_Mo_nodes_58 ?_
    refine lv_iadd hx hb zd_Mo_nodes_59 ?_
    refine lv_iconst (v := nI 2) hx hb zd_Mo_nodes_60 (by decide) ?_
    refine lv_iload_n hx hb zd_Mo_nodes_61 rfl (lv_at hl 3 rfl) ?_
    refine lv_imul hx hb zd_Mo_nodes_62 ?_
    refine lv_iadd hx hb zd_Mo_nodes_63 ?_
    refine lv_iload hx hb zd_Mo_nodes_64 (lv_at hl 5 rfl) ?_
    refine lv_if_eq hx hb (tgt := 73) zd_Mo_nodes_66 (by decide) (fun c3 => ?_) (fun c3 => ?_)
    · replace h := zb_t c3 h
      refine lv_iconst (v := nI 0) hx hb zd_Mo_nodes_73 (by decide) ?_
      exact B74 _ hk6 _ _ ls a0 x1 x2 x3 x4 x5 x6 xs0 b2 ((((nI 30) * x1) + ((nI 6) * x6)) + ((nI 2) * x2)) (nI 0) σ hI (lv_sub hl [1, 2, 3, 4, 5, 6, 7, 0] rfl) h
    · replace h := zb_f c3 h
      refine lv_iconst (v := nI 1) hx hb zd_Mo_nodes_69 (by decide) ?_
      refine lv_goto hx hb (tgt := 74) zd_Mo_nodes_70 (by decide) ?_
      exact B74 _ hk6 _ _ ls a0 x1 x2 x3 x4 x5 x6 xs0 b2 ((((nI 30) * x1) + ((nI 6) * x6)) + ((nI 2) * x2)) (nI 1) σ hI (lv_sub hl [1, 2, 3, 4, 5, 6, 7, 0] rfl) h
  have B39 : ∀ (k6 : Nat → Int32 → Int32 → Int32 → Int32 → Int32 → Int32 → za_h → Option (Int32 × za_h)), (∀ (H : Heap) (locs : List Loc) (ls : Array Slot) (a0 : Nat) (x1 : Int32) (x2 : Int32) (x3 : Int32) (x4 : Int32) (x5 : Int32) (x6 : Int32) (σ : za_h), za_I D ca n0 s σ H locs → lv_has ls 10 [(0, .ref a0), (1, .int x1), (2, .int x2), (3, .int x3), (4, .int x4), (5, .int x5), (6, .int x6)] → k6 a0 x1 x2 x3 x4 x5 x6 σ = some (r, σ') → W p l e ({ frames := 2, cells := 0, slots := 0, locals := 47 }) s m ([.ref ay0, .int xy1, .int xy2, .int xy3, .int xy4] : List Value).toArray below meth c H locs 0 0 (MQ below (za_Qi D ca n0 r σ') ([.ref ay0, .int xy1, .int xy2, .int xy3, .int xy4] : List Value).toArray s 0 0 (za_A n0)) (F0 m 6 ls [])) → ∀ (H : Heap) (locs : List Loc) (ls : Array Slot) (a0 : Nat) (x1 : Int32) (x2 : Int32) (x3 : Int32) (x4 : Int32) (x5 : Int32) (x6 : Int32) (σ : za_h), za_I D ca n0 s σ H locs → lv_has ls 10 [(0, .ref a0), (1, .int x1), (2, .int x2), (3, .int x3), (4, .int x4), (5, .int x5), (6, .int x6)] → zf_Mo_nodes_39 k6 a0 x1 x2 x3 x4 x5 x6 σ = some (r, σ') → W p l e ({ frames := 2, cells := 0, slots := 0, locals := 47 }) s m ([.ref ay0, .int xy1, .int xy2, .int xy3, .int xy4] : List Value).toArray below meth c H locs 0 0 (MQ below (za_Qi D ca n0 r σ') ([.ref ay0, .int xy1, .int xy2, .int xy3, .int xy4] : List Value).toArray s 0 0 (za_A n0)) (F0 m 39 ls []) := by
    intro k6 hk6 H locs ls a0 x1 x2 x3 x4 x5 x6 σ hI hl h
    unfold zf_Mo_nodes_39 at h
    refine lv_iconst (v := nI 1) hx hb zd_Mo_nodes_39 (by decide) ?_
    refine lv_goto hx hb (tgt := 44) zd_Mo_nodes_40 (by decide) ?_
    exact B44 _ hk6 _ _ ls a0 x1 x2 x3 x4 x5 x6 (nI 1) σ hI (lv_sub hl [0, 1, 2, 3, 4, 5, 6] rfl) h
  have B43 : ∀ (k6 : Nat → Int32 → Int32 → Int32 → Int32 → Int32 → Int32 → za_h → Option (Int32 × za_h)), (∀ (H : Heap) (locs : List Loc) (ls : Array Slot) (a0 : Nat) (x1 : Int32) (x2 : Int32) (x3 : Int32) (x4 : Int32) (x5 : Int32) (x6 : Int32) (σ : za_h), za_I D ca n0 s σ H locs → lv_has ls 10 [(0, .ref a0), (1, .int x1), (2, .int x2), (3, .int x3), (4, .int x4), (5, .int x5), (6, .int x6)] → k6 a0 x1 x2 x3 x4 x5 x6 σ = some (r, σ') → W p l e ({ frames := 2, cells := 0, slots := 0, locals := 47 }) s m ([.ref ay0, .int xy1, .int xy2, .int xy3, .int xy4] : List Value).toArray below meth c H locs 0 0 (MQ below (za_Qi D ca n0 r σ') ([.ref ay0, .int xy1, .int xy2, .int xy3, .int xy4] : List Value).toArray s 0 0 (za_A n0)) (F0 m 6 ls [])) → ∀ (H : Heap) (locs : List Loc) (ls : Array Slot) (a0 : Nat) (x1 : Int32) (x2 : Int32) (x3 : Int32) (x4 : Int32) (x5 : Int32) (x6 : Int32) (σ : za_h), za_I D ca n0 s σ H locs → lv_has ls 10 [(0, .ref a0), (1, .int x1), (2, .int x2), (3, .int x3), (4, .int x4), (5, .int x5), (6, .int x6)] → zf_Mo_nodes_43 k6 a0 x1 x2 x3 x4 x5 x6 σ = some (r, σ') → W p l e ({ frames := 2, cells := 0, slots := 0, locals := 47 }) s m ([.ref ay0, .int xy1, .int xy2, .int xy3, .int xy4] : List Value).toArray below meth c H locs 0 0 (MQ below (za_Qi D ca n0 r σ') ([.ref ay0, .int xy1, .int xy2, .int xy3, .int xy4] : List Value).toArray s 0 0 (za_A n0)) (F0 m 43 ls []) := by
    intro k6 hk6 H locs ls a0 x1 x2 x3 x4 x5 x6 σ hI hl h
    unfold zf_Mo_nodes_43 at h
    refine lv_iconst (v := nI 0) hx hb zd_Mo_nodes_43 (by decide) ?_
    exact B44 _ hk6 _ _ ls a0 x1 x2 x3 x4 x5 x6 (nI 0) σ hI (lv_sub hl [0, 1, 2, 3, 4, 5, 6] rfl) h
  have B6 : ∀ n : Nat, ∀ (H : Heap) (locs : List Loc) (ls : Array Slot) (a0 : Nat) (x1 : Int32) (x2 : Int32) (x3 : Int32) (x4 : Int32) (x5 : Int32) (x6 : Int32) (σ : za_h), za_I D ca n0 s σ H locs → lv_has ls 10 [(0, .ref a0), (1, .int x1), (2, .int x2), (3, .int x3), (4, .int x4), (5, .int x5), (6, .int x6)] → zf_Mo_nodes_6 n a0 x1 x2 x3 x4 x5 x6 σ = some (r, σ') → W p l e ({ frames := 2, cells := 0, slots := 0, locals := 47 }) s m ([.ref ay0, .int xy1, .int xy2, .int xy3, .int xy4] : List Value).toArray below meth c H locs 0 0 (MQ below (za_Qi D ca n0 r σ') ([.ref ay0, .int xy1, .int xy2, .int xy3, .int xy4] : List Value).toArray s 0 0 (za_A n0)) (F0 m 6 ls []) := by
    intro n
    induction n with
    | zero => intro H locs ls a0 x1 x2 x3 x4 x5 x6 σ hI hl h; rw [zf_Mo_nodes_6] at h; cases h
    | succ n ih =>
      intro H locs ls a0 x1 x2 x3 x4 x5 x6 σ hI hl h
      rw [zf_Mo_nodes_6] at h
      refine lv_iload hx hb zd_Mo_nodes_6 (lv_at hl 6 rfl) ?_
      refine lv_iconst (v := nI 5) hx hb zd_Mo_nodes_8 (by decide) ?_
      refine lv_icmp_ge hx hb (tgt := 131) zd_Mo_nodes_9 (by decide) (fun c1 => ?_) (fun c1 => ?_)
      · replace h := zb_t c1 h
        refine lv_iload hx hb zd_Mo_nodes_131 (lv_at hl 5 rfl) ?_
        exact za_iret hx hb hr hlk hI h (Nat.le_of_ble_eq_true rfl) (Nat.le_of_ble_eq_true rfl) zd_Mo_nodes_133
      · replace h := zb_f c1 h
        refine lv_aload_n hx hb zd_Mo_nodes_12 rfl (lv_at hl 0 rfl) ?_
        refine lv_iload_n hx hb zd_Mo_nodes_13 rfl (lv_at hl 1 rfl) ?_
        refine lv_iload_n hx hb zd_Mo_nodes_14 rfl (lv_at hl 2 rfl) ?_
        refine lv_iconst (v := nI 1) hx hb zd_Mo_nodes_15 (by decide) ?_
        refine lv_iload_n hx hb zd_Mo_nodes_16 rfl (lv_at hl 3 rfl) ?_
        obtain ⟨_, g2, h⟩ := zb_o h
        obtain ⟨⟨r3, σ4⟩, e5, h⟩ := zb_o h
        refine za_calli (za_runV hx hb hml hown hts hK hI g2 (zm_Mo_has e5) zj_Mo_125 ⟨rfl, rfl⟩ ⟨Nat.le_of_ble_eq_true rfl, Nat.le_of_ble_eq_true rfl⟩ rfl hl.1 rfl (Nat.le_of_ble_eq_true rfl) zd_Mo_nodes_17 ⟨Nat.le_of_ble_eq_true rfl, Nat.le_of_ble_eq_true rfl⟩) hI (fun H locs hI => ?_)
        refine lv_if_ne hx hb (tgt := 39) zd_Mo_nodes_20 (by decide) (fun c6 => ?_) (fun c6 => ?_)
        · replace h := zb_f c6 h
          exact B39 _ ih _ _ ls a0 x1 x2 x3 x4 x5 x6 σ4 hI (lv_sub hl [0, 1, 2, 3, 4, 5, 6] rfl) h
        · replace h := zb_t c6 h
          refine lv_iload hx hb zd_Mo_nodes_23 (lv_at hl 4 rfl) ?_
          refine lv_if_ne hx hb (tgt := 43) zd_Mo_nodes_25 (by decide) (fun c7 => ?_) (fun c7 => ?_)
          · replace h := zb_f c7 h
            exact B43 _ ih _ _ ls a0 x1 x2 x3 x4 x5 x6 σ4 hI (lv_sub hl [0, 1, 2, 3, 4, 5, 6] rfl) h
          · replace h := zb_t c7 h
            refine lv_aload_n hx hb zd_Mo_nodes_28 rfl (lv_at hl 0 rfl) ?_
            refine lv_iload_n hx hb zd_Mo_nodes_29 rfl (lv_at hl 1 rfl) ?_
            refine lv_iload_n hx hb zd_Mo_nodes_30 rfl (lv_at hl 2 rfl) ?_
            refine lv_iconst (v := nI 0) hx hb zd_Mo_nodes_31 (by decide) ?_
            refine lv_iload_n hx hb zd_Mo_nodes_32 rfl (lv_at hl 3 rfl) ?_
            obtain ⟨_, g8, h⟩ := zb_o h
            obtain ⟨⟨r9, σ10⟩, e11, h⟩ := zb_o h
            refine za_calli (za_runV hx hb hml hown hts hK hI g8 (zm_Mo_has e11) zj_Mo_125 ⟨rfl, rfl⟩ ⟨Nat.le_of_ble_eq_true rfl, Nat.le_of_ble_eq_true rfl⟩ rfl hl.1 rfl (Nat.le_of_ble_eq_true rfl) zd_Mo_nodes_33 ⟨Nat.le_of_ble_eq_true rfl, Nat.le_of_ble_eq_true rfl⟩) hI (fun H locs hI => ?_)
            refine lv_if_eq hx hb (tgt := 43) zd_Mo_nodes_36 (by decide) (fun c12 => ?_) (fun c12 => ?_)
            · replace h := zb_t c12 h
              exact B43 _ ih _ _ ls a0 x1 x2 x3 x4 x5 x6 σ10 hI (lv_sub hl [0, 1, 2, 3, 4, 5, 6] rfl) h
            · replace h := zb_f c12 h
              exact B39 _ ih _ _ ls a0 x1 x2 x3 x4 x5 x6 σ10 hI (lv_sub hl [0, 1, 2, 3, 4, 5, 6] rfl) h
  unfold zf_Mo_nodes at h
  refine lv_iconst (v := nI 0) hx hb zd_Mo_nodes_0 (by decide) ?_
  refine lv_istore (lv' := [(5, .int (nI 0)), (0, .ref ay0), (1, .int xy1), (2, .int xy2), (3, .int xy3), (4, .int xy4)]) hx hb zd_Mo_nodes_1 hl (Nat.le_of_ble_eq_true rfl) rfl (fun ls hl => ?_)
  refine lv_iconst (v := nI 0) hx hb zd_Mo_nodes_3 (by decide) ?_
  refine lv_istore (lv' := [(6, .int (nI 0)), (5, .int (nI 0)), (0, .ref ay0), (1, .int xy1), (2, .int xy2), (3, .int xy3), (4, .int xy4)]) hx hb zd_Mo_nodes_4 hl (Nat.le_of_ble_eq_true rfl) rfl (fun ls hl => ?_)
  exact B6 6 _ _ ls ay0 xy1 xy2 xy3 xy4 (nI 0) (nI 0) σ hI (lv_sub hl [2, 3, 4, 5, 6, 1, 0] rfl) h

def zf_Mo_worth (xy0 : Int32) (σ : za_h) : Option (Int32 × za_h) :=
  some (((xy0 - xy0 / (nI 7) * (nI 7)) + (nI 1)), σ)
set_option maxRecDepth 100000 in
set_option maxHeartbeats 4000000 in
theorem zm_Mo_worth {l : Launch} {D : va_G} {ca : Nat → ClassId} {n0 : Nat} {xy0 : Int32} {σ σ' : za_h} {r : Int32} (h : zf_Mo_worth xy0 σ = some (r, σ')) : Met l zy_Mo_worth (za_wy zy_Mo_worth zc_Mo_worth 1 (some .int)) { frames := 0, cells := 0, slots := 0, locals := 0 } (za_Pc D ca n0 [.int xy0] σ) (za_Qi D ca n0 r σ') 0 0 (za_A n0) := by
  refine za_met (by decide) (Nat.le_of_ble_eq_true rfl) ?_
  intro p e s m below meth c ls hx hb hml hr hlk hts hown hnm hK hI hl
  replace hown : s.vm.findClass zR_Mo = some m.cls := hown
  replace hl : lv_has ls 1 [(0, .int xy0)] := hl
  unfold zf_Mo_worth at h
  refine lv_iload_n hx hb zd_Mo_worth_0 rfl (lv_at hl 0 rfl) ?_
  refine lv_bipush (v := nI 7) hx hb zd_Mo_worth_1 (by decide) ?_
  refine lv_irem hx hb zd_Mo_worth_3 (by decide) ?_
  refine lv_iconst (v := nI 1) hx hb zd_Mo_worth_4 (by decide) ?_
  refine lv_iadd hx hb zd_Mo_worth_5 ?_
  exact za_iret hx hb hr hlk hI h (Nat.le_of_ble_eq_true rfl) (Nat.le_of_ble_eq_true rfl) zd_Mo_worth_6

def zf_Mo_aborts_21 (xs0 : Int32) (σ : za_h) : Option (Int32 × za_h) :=
  if xs0 = 0 ∨ xs0 = 1 then some (xs0, σ) else none

def zf_Mo_aborts_20  (σ : za_h) : Option (Int32 × za_h) :=
  zf_Mo_aborts_21 (nI 0) σ

def zf_Mo_aborts (xy0 : Int32) (xy1 : Int32) (σ : za_h) : Option (Int32 × za_h) :=
  if xy0 ≤ xy1 then
  (zf_Mo_aborts_20 σ)
  else
  ((zf_Mo_worth xy1 σ).bind fun (r2, σ3) =>
  (zf_Mo_worth xy0 σ3).bind fun (r5, σ6) =>
  if r2 = r5 then
  (zf_Mo_aborts_20 σ6)
  else
  (zf_Mo_aborts_21 (nI 1) σ6))
set_option maxRecDepth 100000 in
set_option maxHeartbeats 4000000 in
theorem zm_Mo_aborts {l : Launch} {D : va_G} {ca : Nat → ClassId} {n0 : Nat} {xy0 : Int32} {xy1 : Int32} {σ σ' : za_h} {r : Int32} (h : zf_Mo_aborts xy0 xy1 σ = some (r, σ')) : Met l zy_Mo_aborts (za_wy zy_Mo_aborts zc_Mo_aborts 2 (some .boolean)) { frames := 1, cells := 0, slots := 0, locals := 20 } (za_Pc D ca n0 [.int xy0, .int xy1] σ) (za_Qi D ca n0 r σ') 0 0 (za_A n0) := by
  refine za_met (by decide) (Nat.le_of_ble_eq_true rfl) ?_
  intro p e s m below meth c ls hx hb hml hr hlk hts hown hnm hK hI hl
  replace hown : s.vm.findClass zR_Mo = some m.cls := hown
  replace hl : lv_has ls 2 [(0, .int xy0), (1, .int xy1)] := hl
  have B21 : ∀ (H : Heap) (locs : List Loc) (ls : Array Slot) (xs0 : Int32) (σ : za_h), za_I D ca n0 s σ H locs → lv_has ls 2 [] → zf_Mo_aborts_21 xs0 σ = some (r, σ') → W p l e ({ frames := 1, cells := 0, slots := 0, locals := 20 }) s m ([.int xy0, .int xy1] : List Value).toArray below meth c H locs 0 0 (MQ below (za_Qi D ca n0 r σ') ([.int xy0, .int xy1] : List Value).toArray s 0 0 (za_A n0)) (F0 m 21 ls [.int xs0]) := by
    intro H locs ls xs0 σ hI hl h
    unfold zf_Mo_aborts_21 at h
    obtain ⟨g1, h⟩ := zb_g h
    exact za_zret hx hb hr hlk hI g1 h (Nat.le_of_ble_eq_true rfl) (Nat.le_of_ble_eq_true rfl) zd_Mo_aborts_21
  have B20 : ∀ (H : Heap) (locs : List Loc) (ls : Array Slot) (σ : za_h), za_I D ca n0 s σ H locs → lv_has ls 2 [] → zf_Mo_aborts_20 σ = some (r, σ') → W p l e ({ frames := 1, cells := 0, slots := 0, locals := 20 }) s m ([.int xy0, .int xy1] : List Value).toArray below meth c H locs 0 0 (MQ below (za_Qi D ca n0 r σ') ([.int xy0, .int xy1] : List Value).toArray s 0 0 (za_A n0)) (F0 m 20 ls []) := by
    intro H locs ls σ hI hl h
    unfold zf_Mo_aborts_20 at h
    refine lv_iconst (v := nI 0) hx hb zd_Mo_aborts_20 (by decide) ?_
    exact B21 _ _ ls (nI 0) σ hI (lv_sub hl [] rfl) h
  unfold zf_Mo_aborts at h
  refine lv_iload_n hx hb zd_Mo_aborts_0 rfl (lv_at hl 1 rfl) ?_
  refine lv_iload_n hx hb zd_Mo_aborts_1 rfl (lv_at hl 0 rfl) ?_
  refine lv_icmp_ge hx hb (tgt := 20) zd_Mo_aborts_2 (by decide) (fun c1 => ?_) (fun c1 => ?_)
  · replace h := zb_t c1 h
    exact B20 _ _ ls σ hI (lv_sub hl [] rfl) h
  · replace h := zb_f c1 h
    refine lv_iload_n hx hb zd_Mo_aborts_5 rfl (lv_at hl 1 rfl) ?_
    obtain ⟨⟨r2, σ3⟩, e4, h⟩ := zb_o h
    refine za_calli (za_runS hx hb hml hown hts hK hI (zm_Mo_worth e4) zj_Mo_129 ⟨rfl, rfl⟩ ⟨Nat.le_of_ble_eq_true rfl, Nat.le_of_ble_eq_true rfl⟩ rfl hl.1 rfl (Nat.le_of_ble_eq_true rfl) zd_Mo_aborts_6 ⟨Nat.le_of_ble_eq_true rfl, Nat.le_of_ble_eq_true rfl⟩) hI (fun H locs hI => ?_)
    refine lv_iload_n hx hb zd_Mo_aborts_9 rfl (lv_at hl 0 rfl) ?_
    obtain ⟨⟨r5, σ6⟩, e7, h⟩ := zb_o h
    refine za_calli (za_runS hx hb hml hown hts hK hI (zm_Mo_worth e7) zj_Mo_129 ⟨rfl, rfl⟩ ⟨Nat.le_of_ble_eq_true rfl, Nat.le_of_ble_eq_true rfl⟩ rfl hl.1 rfl (Nat.le_of_ble_eq_true rfl) zd_Mo_aborts_10 ⟨Nat.le_of_ble_eq_true rfl, Nat.le_of_ble_eq_true rfl⟩) hI (fun H locs hI => ?_)
    refine lv_icmp_eq hx hb (tgt := 20) zd_Mo_aborts_13 (by decide) (fun c8 => ?_) (fun c8 => ?_)
    · replace h := zb_t c8 h
      exact B20 _ _ ls σ6 hI (lv_sub hl [] rfl) h
    · replace h := zb_f c8 h
      refine lv_iconst (v := nI 1) hx hb zd_Mo_aborts_16 (by decide) ?_
      refine lv_goto hx hb (tgt := 21) zd_Mo_aborts_17 (by decide) ?_
      exact B21 _ _ ls (nI 1) σ6 hI (lv_sub hl [] rfl) h

def zf_Mo_clash_53 (k3 : Nat → Int32 → Int32 → Int32 → Int32 → Int32 → Int32 → za_h → Option (Int32 × za_h)) (a0 : Nat) (x1 : Int32) (x2 : Int32) (x3 : Int32) (x4 : Int32) (x5 : Int32) (x6 : Int32) (σ : za_h) : Option (Int32 × za_h) :=
  k3 a0 x1 x2 x3 x4 x5 (x6 + nI 1) σ

def zf_Mo_clash_32 (k3 : Nat → Int32 → Int32 → Int32 → Int32 → Int32 → Int32 → za_h → Option (Int32 × za_h)) (a0 : Nat) (x1 : Int32) (x2 : Int32) (x3 : Int32) (x4 : Int32) (x5 : Int32) (x6 : Int32) (xs0 : Int32) (σ : za_h) : Option (Int32 × za_h) :=
  if xs0 = 0 then
  (zf_Mo_clash_53 k3 a0 x1 x2 x3 x4 x5 x6 σ)
  else
  ((zg_c σ a0 10).bind fun _ =>
  (zf_Mo_has a0 x1 x2 x3 x6 σ).bind fun (r3, σ4) =>
  if r3 = 0 then
  (zf_Mo_clash_53 k3 a0 x1 x2 x3 x4 x5 x6 σ4)
  else
  (some ((nI 1), σ4)))

def zf_Mo_clash_3 : Nat → Nat → Int32 → Int32 → Int32 → Int32 → Int32 → Int32 → za_h → Option (Int32 × za_h)
  | 0, _, _, _, _, _, _, _, _ => none
  | n + 1, a0, x1, x2, x3, x4, x5, x6, σ =>
  if (nI 28) ≤ x6 then
  (some ((nI 0), σ))
  else
  (if x5 = 0 then
  ((zf_Mo_aborts x4 x6 σ).bind fun (r3, σ4) =>
  zf_Mo_clash_32 (zf_Mo_clash_3 n) a0 x1 x2 x3 x4 x5 x6 r3 σ4)
  else
  ((zf_Mo_aborts x6 x4 σ).bind fun (r6, σ7) =>
  zf_Mo_clash_32 (zf_Mo_clash_3 n) a0 x1 x2 x3 x4 x5 x6 r6 σ7))

def zf_Mo_clash (ay0 : Nat) (xy1 : Int32) (xy2 : Int32) (xy3 : Int32) (xy4 : Int32) (xy5 : Int32) (σ : za_h) : Option (Int32 × za_h) :=
  zf_Mo_clash_3 29 ay0 xy1 xy2 xy3 xy4 xy5 (nI 0) σ
set_option maxRecDepth 100000 in
set_option maxHeartbeats 4000000 in
theorem zm_Mo_clash {l : Launch} {D : va_G} {ca : Nat → ClassId} {n0 : Nat} {ay0 : Nat} {xy1 : Int32} {xy2 : Int32} {xy3 : Int32} {xy4 : Int32} {xy5 : Int32} {σ σ' : za_h} {r : Int32} (h : zf_Mo_clash ay0 xy1 xy2 xy3 xy4 xy5 σ = some (r, σ')) : Met l zy_Mo_clash (za_wy zy_Mo_clash zc_Mo_clash 8 (some .boolean)) { frames := 2, cells := 0, slots := 0, locals := 47 } (za_Pc D ca n0 [.ref ay0, .int xy1, .int xy2, .int xy3, .int xy4, .int xy5] σ) (za_Qi D ca n0 r σ') 0 0 (za_A n0) := by
  refine za_met (by decide) (Nat.le_of_ble_eq_true rfl) ?_
  intro p e s m below meth c ls hx hb hml hr hlk hts hown hnm hK hI hl
  replace hown : s.vm.findClass zR_Mo = some m.cls := hown
  replace hl : lv_has ls 8 [(0, .ref ay0), (1, .int xy1), (2, .int xy2), (3, .int xy3), (4, .int xy4), (5, .int xy5)] := hl
  have B53 : ∀ (k3 : Nat → Int32 → Int32 → Int32 → Int32 → Int32 → Int32 → za_h → Option (Int32 × za_h)), (∀ (H : Heap) (locs : List Loc) (ls : Array Slot) (a0 : Nat) (x1 : Int32) (x2 : Int32) (x3 : Int32) (x4 : Int32) (x5 : Int32) (x6 : Int32) (σ : za_h), za_I D ca n0 s σ H locs → lv_has ls 8 [(0, .ref a0), (1, .int x1), (2, .int x2), (3, .int x3), (4, .int x4), (5, .int x5), (6, .int x6)] → k3 a0 x1 x2 x3 x4 x5 x6 σ = some (r, σ') → W p l e ({ frames := 2, cells := 0, slots := 0, locals := 47 }) s m ([.ref ay0, .int xy1, .int xy2, .int xy3, .int xy4, .int xy5] : List Value).toArray below meth c H locs 0 0 (MQ below (za_Qi D ca n0 r σ') ([.ref ay0, .int xy1, .int xy2, .int xy3, .int xy4, .int xy5] : List Value).toArray s 0 0 (za_A n0)) (F0 m 3 ls [])) → ∀ (H : Heap) (locs : List Loc) (ls : Array Slot) (a0 : Nat) (x1 : Int32) (x2 : Int32) (x3 : Int32) (x4 : Int32) (x5 : Int32) (x6 : Int32) (σ : za_h), za_I D ca n0 s σ H locs → lv_has ls 8 [(0, .ref a0), (1, .int x1), (2, .int x2), (3, .int x3), (4, .int x4), (5, .int x5), (6, .int x6)] → zf_Mo_clash_53 k3 a0 x1 x2 x3 x4 x5 x6 σ = some (r, σ') → W p l e ({ frames := 2, cells := 0, slots := 0, locals := 47 }) s m ([.ref ay0, .int xy1, .int xy2, .int xy3, .int xy4, .int xy5] : List Value).toArray below meth c H locs 0 0 (MQ below (za_Qi D ca n0 r σ') ([.ref ay0, .int xy1, .int xy2, .int xy3, .int xy4, .int xy5] : List Value).toArray s 0 0 (za_A n0)) (F0 m 53 ls []) := by
    intro k3 hk3 H locs ls a0 x1 x2 x3 x4 x5 x6 σ hI hl h
    unfold zf_Mo_clash_53 at h
    refine lv_iinc (k := 6) (v := (x6 + nI 1)) (lv' := [(6, .int (x6 + nI 1)), (0, .ref a0), (1, .int x1), (2, .int x2), (3, .int x3), (4, .int x4), (5, .int x5)]) hx hb zd_Mo_clash_53 hl rfl rfl (Nat.le_of_ble_eq_true rfl) rfl (fun ls hl => ?_)
    refine lv_goto hx hb (tgt := 3) zd_Mo_clash_56 (by decide) ?_
    exact hk3 _ _ ls a0 x1 x2 x3 x4 x5 (x6 + nI 1) σ hI (lv_sub hl [1, 2, 3, 4, 5, 6, 0] rfl) h
  have B32 : ∀ (k3 : Nat → Int32 → Int32 → Int32 → Int32 → Int32 → Int32 → za_h → Option (Int32 × za_h)), (∀ (H : Heap) (locs : List Loc) (ls : Array Slot) (a0 : Nat) (x1 : Int32) (x2 : Int32) (x3 : Int32) (x4 : Int32) (x5 : Int32) (x6 : Int32) (σ : za_h), za_I D ca n0 s σ H locs → lv_has ls 8 [(0, .ref a0), (1, .int x1), (2, .int x2), (3, .int x3), (4, .int x4), (5, .int x5), (6, .int x6)] → k3 a0 x1 x2 x3 x4 x5 x6 σ = some (r, σ') → W p l e ({ frames := 2, cells := 0, slots := 0, locals := 47 }) s m ([.ref ay0, .int xy1, .int xy2, .int xy3, .int xy4, .int xy5] : List Value).toArray below meth c H locs 0 0 (MQ below (za_Qi D ca n0 r σ') ([.ref ay0, .int xy1, .int xy2, .int xy3, .int xy4, .int xy5] : List Value).toArray s 0 0 (za_A n0)) (F0 m 3 ls [])) → ∀ (H : Heap) (locs : List Loc) (ls : Array Slot) (a0 : Nat) (x1 : Int32) (x2 : Int32) (x3 : Int32) (x4 : Int32) (x5 : Int32) (x6 : Int32) (xs0 : Int32) (σ : za_h), za_I D ca n0 s σ H locs → lv_has ls 8 [(0, .ref a0), (1, .int x1), (2, .int x2), (3, .int x3), (4, .int x4), (5, .int x5), (6, .int x6)] → zf_Mo_clash_32 k3 a0 x1 x2 x3 x4 x5 x6 xs0 σ = some (r, σ') → W p l e ({ frames := 2, cells := 0, slots := 0, locals := 47 }) s m ([.ref ay0, .int xy1, .int xy2, .int xy3, .int xy4, .int xy5] : List Value).toArray below meth c H locs 0 0 (MQ below (za_Qi D ca n0 r σ') ([.ref ay0, .int xy1, .int xy2, .int xy3, .int xy4, .int xy5] : List Value).toArray s 0 0 (za_A n0)) (F0 m 32 ls [.int xs0]) := by
    intro k3 hk3 H locs ls a0 x1 x2 x3 x4 x5 x6 xs0 σ hI hl h
    unfold zf_Mo_clash_32 at h
    refine lv_istore (lv' := [(7, .int xs0), (0, .ref a0), (1, .int x1), (2, .int x2), (3, .int x3), (4, .int x4), (5, .int x5), (6, .int x6)]) hx hb zd_Mo_clash_32 hl (Nat.le_of_ble_eq_true rfl) rfl (fun ls hl => ?_)
    refine lv_iload hx hb zd_Mo_clash_34 (lv_at hl 0 rfl) ?_
    refine lv_if_eq hx hb (tgt := 53) zd_Mo_clash_36 (by decide) (fun c1 => ?_) (fun c1 => ?_)
    · replace h := zb_t c1 h
      exact B53 _ hk3 _ _ ls a0 x1 x2 x3 x4 x5 x6 σ hI (lv_sub hl [1, 2, 3, 4, 5, 6, 7] rfl) h
    · replace h := zb_f c1 h
      refine lv_aload_n hx hb zd_Mo_clash_39 rfl (lv_at hl 1 rfl) ?_
      refine lv_iload_n hx hb zd_Mo_clash_40 rfl (lv_at hl 2 rfl) ?_
      refine lv_iload_n hx hb zd_Mo_clash_41 rfl (lv_at hl 3 rfl) ?_
      refine lv_iload_n hx hb zd_Mo_clash_42 rfl (lv_at hl 4 rfl) ?_
      refine lv_iload hx hb zd_Mo_clash_43 (lv_at hl 7 rfl) ?_
      obtain ⟨_, g2, h⟩ := zb_o h
      obtain ⟨⟨r3, σ4⟩, e5, h⟩ := zb_o h
      refine za_calli (za_runV hx hb hml hown hts hK hI g2 (zm_Mo_has e5) zj_Mo_125 ⟨rfl, rfl⟩ ⟨Nat.le_of_ble_eq_true rfl, Nat.le_of_ble_eq_true rfl⟩ rfl hl.1 rfl (Nat.le_of_ble_eq_true rfl) zd_Mo_clash_45 ⟨Nat.le_of_ble_eq_true rfl, Nat.le_of_ble_eq_true rfl⟩) hI (fun H locs hI => ?_)
      refine lv_if_eq hx hb (tgt := 53) zd_Mo_clash_48 (by decide) (fun c6 => ?_) (fun c6 => ?_)
      · replace h := zb_t c6 h
        exact B53 _ hk3 _ _ ls a0 x1 x2 x3 x4 x5 x6 σ4 hI (lv_sub hl [1, 2, 3, 4, 5, 6, 7] rfl) h
      · replace h := zb_f c6 h
        refine lv_iconst (v := nI 1) hx hb zd_Mo_clash_51 (by decide) ?_
        exact za_zret hx hb hr hlk hI (by decide) h (Nat.le_of_ble_eq_true rfl) (Nat.le_of_ble_eq_true rfl) zd_Mo_clash_52
  have B3 : ∀ n : Nat, ∀ (H : Heap) (locs : List Loc) (ls : Array Slot) (a0 : Nat) (x1 : Int32) (x2 : Int32) (x3 : Int32) (x4 : Int32) (x5 : Int32) (x6 : Int32) (σ : za_h), za_I D ca n0 s σ H locs → lv_has ls 8 [(0, .ref a0), (1, .int x1), (2, .int x2), (3, .int x3), (4, .int x4), (5, .int x5), (6, .int x6)] → zf_Mo_clash_3 n a0 x1 x2 x3 x4 x5 x6 σ = some (r, σ') → W p l e ({ frames := 2, cells := 0, slots := 0, locals := 47 }) s m ([.ref ay0, .int xy1, .int xy2, .int xy3, .int xy4, .int xy5] : List Value).toArray below meth c H locs 0 0 (MQ below (za_Qi D ca n0 r σ') ([.ref ay0, .int xy1, .int xy2, .int xy3, .int xy4, .int xy5] : List Value).toArray s 0 0 (za_A n0)) (F0 m 3 ls []) := by
    intro n
    induction n with
    | zero => intro H locs ls a0 x1 x2 x3 x4 x5 x6 σ hI hl h; rw [zf_Mo_clash_3] at h; cases h
    | succ n ih =>
      intro H locs ls a0 x1 x2 x3 x4 x5 x6 σ hI hl h
      rw [zf_Mo_clash_3] at h
      refine lv_iload hx hb zd_Mo_clash_3 (lv_at hl 6 rfl) ?_
      refine lv_bipush (v := nI 28) hx hb zd_Mo_clash_5 (by decide) ?_
      refine lv_icmp_ge hx hb (tgt := 59) zd_Mo_clash_7 (by decide) (fun c1 => ?_) (fun c1 => ?_)
      · replace h := zb_t c1 h
        refine lv_iconst (v := nI 0) hx hb zd_Mo_clash_59 (by decide) ?_
        exact za_zret hx hb hr hlk hI (by decide) h (Nat.le_of_ble_eq_true rfl) (Nat.le_of_ble_eq_true rfl) zd_Mo_clash_60
      · replace h := zb_f c1 h
        refine lv_iload hx hb zd_Mo_clash_10 (lv_at hl 5 rfl) ?_
        refine lv_if_eq hx hb (tgt := 25) zd_Mo_clash_12 (by decide) (fun c2 => ?_) (fun c2 => ?_)
        · replace h := zb_t c2 h
          refine lv_iload hx hb zd_Mo_clash_25 (lv_at hl 4 rfl) ?_
          refine lv_iload hx hb zd_Mo_clash_27 (lv_at hl 6 rfl) ?_
          obtain ⟨⟨r3, σ4⟩, e5, h⟩ := zb_o h
          refine za_calli (za_runS hx hb hml hown hts hK hI (zm_Mo_aborts e5) zj_Mo_132 ⟨rfl, rfl⟩ ⟨Nat.le_of_ble_eq_true rfl, Nat.le_of_ble_eq_true rfl⟩ rfl hl.1 rfl (Nat.le_of_ble_eq_true rfl) zd_Mo_clash_29 ⟨Nat.le_of_ble_eq_true rfl, Nat.le_of_ble_eq_true rfl⟩) hI (fun H locs hI => ?_)
          exact B32 _ ih _ _ ls a0 x1 x2 x3 x4 x5 x6 r3 σ4 hI (lv_sub hl [0, 1, 2, 3, 4, 5, 6] rfl) h
        · replace h := zb_f c2 h
          refine lv_iload hx hb zd_Mo_clash_15 (lv_at hl 6 rfl) ?_
          refine lv_iload hx hb zd_Mo_clash_17 (lv_at hl 4 rfl) ?_
          obtain ⟨⟨r6, σ7⟩, e8, h⟩ := zb_o h
          refine za_calli (za_runS hx hb hml hown hts hK hI (zm_Mo_aborts e8) zj_Mo_132 ⟨rfl, rfl⟩ ⟨Nat.le_of_ble_eq_true rfl, Nat.le_of_ble_eq_true rfl⟩ rfl hl.1 rfl (Nat.le_of_ble_eq_true rfl) zd_Mo_clash_19 ⟨Nat.le_of_ble_eq_true rfl, Nat.le_of_ble_eq_true rfl⟩) hI (fun H locs hI => ?_)
          refine lv_goto hx hb (tgt := 32) zd_Mo_clash_22 (by decide) ?_
          exact B32 _ ih _ _ ls a0 x1 x2 x3 x4 x5 x6 r6 σ7 hI (lv_sub hl [0, 1, 2, 3, 4, 5, 6] rfl) h
  unfold zf_Mo_clash at h
  refine lv_iconst (v := nI 0) hx hb zd_Mo_clash_0 (by decide) ?_
  refine lv_istore (lv' := [(6, .int (nI 0)), (0, .ref ay0), (1, .int xy1), (2, .int xy2), (3, .int xy3), (4, .int xy4), (5, .int xy5)]) hx hb zd_Mo_clash_1 hl (Nat.le_of_ble_eq_true rfl) rfl (fun ls hl => ?_)
  exact B3 29 _ _ ls ay0 xy1 xy2 xy3 xy4 xy5 (nI 0) σ hI (lv_sub hl [1, 2, 3, 4, 5, 6, 0] rfl) h

def zf_Mo_mayAccept_98 (xs0 : Int32) (σ : za_h) : Option (Int32 × za_h) :=
  if xs0 = 0 ∨ xs0 = 1 then some (xs0, σ) else none

def zf_Mo_mayAccept_93  (σ : za_h) : Option (Int32 × za_h) :=
  zf_Mo_mayAccept_98 (nI 1) σ

def zf_Mo_mayAccept_76 (a0 : Nat) (x1 : Int32) (x4 : Int32) (xs0 : Int32) (σ : za_h) : Option (Int32 × za_h) :=
  if xs0 = 0 then
  ((zg_c σ a0 10).bind fun _ =>
  (zf_Mo_gives a0 x4 x1 σ).bind fun (r3, σ4) =>
  if r3 = 0 then
  (zf_Mo_mayAccept_98 (nI 0) σ4)
  else
  (zf_Mo_mayAccept_93 σ4))
  else
  (zf_Mo_mayAccept_93 σ)

def zf_Mo_mayAccept_36 (a0 : Nat) (x1 : Int32) (x2 : Int32) (x3 : Int32) (σ : za_h) : Option (Int32 × za_h) :=
  (zg_c σ a0 10).bind fun _ =>
  (zf_Mo_nodes a0 x1 x2 x3 (nI 0) σ).bind fun (r2, σ3) =>
  (zg_c σ3 a0 10).bind fun _ =>
  (zf_Mo_nodes a0 x1 x2 x3 (nI 1) σ3).bind fun (r6, σ7) =>
  (zg_c σ7 a0 10).bind fun _ =>
  (zf_Mo_satisfies a0 ((nI 31) &&& (r6 ^^^ (-1))) x1 σ7).bind fun (r10, σ11) =>
  if r10 = 0 then
  (zf_Mo_mayAccept_76 a0 x1 r2 (nI 1) σ11)
  else
  (zf_Mo_mayAccept_76 a0 x1 r2 (nI 0) σ11)

def zf_Mo_mayAccept_34  (σ : za_h) : Option (Int32 × za_h) :=
  some ((nI 0), σ)

def zf_Mo_mayAccept_17 (a0 : Nat) (x1 : Int32) (x2 : Int32) (x3 : Int32) (σ : za_h) : Option (Int32 × za_h) :=
  if x2 = (nI 2) then
  ((zg_c σ a0 10).bind fun _ =>
  (zf_Mo_clash a0 x1 (nI 1) (nI 1) x3 (nI 1) σ).bind fun (r3, σ4) =>
  if r3 = 0 then
  (zf_Mo_mayAccept_36 a0 x1 x2 x3 σ4)
  else
  (zf_Mo_mayAccept_34 σ4))
  else
  (zf_Mo_mayAccept_36 a0 x1 x2 x3 σ)

def zf_Mo_mayAccept (ay0 : Nat) (xy1 : Int32) (xy2 : Int32) (xy3 : Int32) (σ : za_h) : Option (Int32 × za_h) :=
  if xy2 = (nI 1) then
  ((zg_c σ ay0 10).bind fun _ =>
  (zf_Mo_clash ay0 xy1 (nI 2) (nI 1) xy3 (nI 0) σ).bind fun (r3, σ4) =>
  if r3 = 0 then
  (zf_Mo_mayAccept_17 ay0 xy1 xy2 xy3 σ4)
  else
  (zf_Mo_mayAccept_34 σ4))
  else
  (zf_Mo_mayAccept_17 ay0 xy1 xy2 xy3 σ)
set_option maxRecDepth 100000 in
set_option maxHeartbeats 4000000 in
theorem zm_Mo_mayAccept {l : Launch} {D : va_G} {ca : Nat → ClassId} {n0 : Nat} {ay0 : Nat} {xy1 : Int32} {xy2 : Int32} {xy3 : Int32} {σ σ' : za_h} {r : Int32} (h : zf_Mo_mayAccept ay0 xy1 xy2 xy3 σ = some (r, σ')) : Met l zy_Mo_mayAccept (za_wy zy_Mo_mayAccept zc_Mo_mayAccept 7 (some .boolean)) { frames := 3, cells := 0, slots := 0, locals := 76 } (za_Pc D ca n0 [.ref ay0, .int xy1, .int xy2, .int xy3] σ) (za_Qi D ca n0 r σ') 0 0 (za_A n0) := by
  refine za_met (by decide) (Nat.le_of_ble_eq_true rfl) ?_
  intro p e s m below meth c ls hx hb hml hr hlk hts hown hnm hK hI hl
  replace hown : s.vm.findClass zR_Mo = some m.cls := hown
  replace hl : lv_has ls 7 [(0, .ref ay0), (1, .int xy1), (2, .int xy2), (3, .int xy3)] := hl
  have B98 : ∀ (H : Heap) (locs : List Loc) (ls : Array Slot) (xs0 : Int32) (σ : za_h), za_I D ca n0 s σ H locs → lv_has ls 7 [] → zf_Mo_mayAccept_98 xs0 σ = some (r, σ') → W p l e ({ frames := 3, cells := 0, slots := 0, locals := 76 }) s m ([.ref ay0, .int xy1, .int xy2, .int xy3] : List Value).toArray below meth c H locs 0 0 (MQ below (za_Qi D ca n0 r σ') ([.ref ay0, .int xy1, .int xy2, .int xy3] : List Value).toArray s 0 0 (za_A n0)) (F0 m 98 ls [.int xs0]) := by
    intro H locs ls xs0 σ hI hl h
    unfold zf_Mo_mayAccept_98 at h
    obtain ⟨g1, h⟩ := zb_g h
    exact za_zret hx hb hr hlk hI g1 h (Nat.le_of_ble_eq_true rfl) (Nat.le_of_ble_eq_true rfl) zd_Mo_mayAccept_98
  have B93 : ∀ (H : Heap) (locs : List Loc) (ls : Array Slot) (σ : za_h), za_I D ca n0 s σ H locs → lv_has ls 7 [] → zf_Mo_mayAccept_93 σ = some (r, σ') → W p l e ({ frames := 3, cells := 0, slots := 0, locals := 76 }) s m ([.ref ay0, .int xy1, .int xy2, .int xy3] : List Value).toArray below meth c H locs 0 0 (MQ below (za_Qi D ca n0 r σ') ([.ref ay0, .int xy1, .int xy2, .int xy3] : List Value).toArray s 0 0 (za_A n0)) (F0 m 93 ls []) := by
    intro H locs ls σ hI hl h
    unfold zf_Mo_mayAccept_93 at h
    refine lv_iconst (v := nI 1) hx hb zd_Mo_mayAccept_93 (by decide) ?_
    refine lv_goto hx hb (tgt := 98) zd_Mo_mayAccept_94 (by decide) ?_
    exact B98 _ _ ls (nI 1) σ hI (lv_sub hl [] rfl) h
  have B76 : ∀ (H : Heap) (locs : List Loc) (ls : Array Slot) (a0 : Nat) (x1 : Int32) (x4 : Int32) (xs0 : Int32) (σ : za_h), za_I D ca n0 s σ H locs → lv_has ls 7 [(0, .ref a0), (1, .int x1), (4, .int x4)] → zf_Mo_mayAccept_76 a0 x1 x4 xs0 σ = some (r, σ') → W p l e ({ frames := 3, cells := 0, slots := 0, locals := 76 }) s m ([.ref ay0, .int xy1, .int xy2, .int xy3] : List Value).toArray below meth c H locs 0 0 (MQ below (za_Qi D ca n0 r σ') ([.ref ay0, .int xy1, .int xy2, .int xy3] : List Value).toArray s 0 0 (za_A n0)) (F0 m 76 ls [.int xs0]) := by
    intro H locs ls a0 x1 x4 xs0 σ hI hl h
    unfold zf_Mo_mayAccept_76 at h
    refine lv_istore (lv' := [(6, .int xs0), (0, .ref a0), (1, .int x1), (4, .int x4)]) hx hb zd_Mo_mayAccept_76 hl (Nat.le_of_ble_eq_true rfl) rfl (fun ls hl => ?_)
    refine lv_iload hx hb zd_Mo_mayAccept_78 (lv_at hl 0 rfl) ?_
    refine lv_if_ne hx hb (tgt := 93) zd_Mo_mayAccept_80 (by decide) (fun c1 => ?_) (fun c1 => ?_)
    · replace h := zb_f c1 h
      exact B93 _ _ ls σ hI (lv_sub hl [] rfl) h
    · replace h := zb_t c1 h
      refine lv_aload_n hx hb zd_Mo_mayAccept_83 rfl (lv_at hl 1 rfl) ?_
      refine lv_iload hx hb zd_Mo_mayAccept_84 (lv_at hl 3 rfl) ?_
      refine lv_iload_n hx hb zd_Mo_mayAccept_86 rfl (lv_at hl 2 rfl) ?_
      obtain ⟨_, g2, h⟩ := zb_o h
      obtain ⟨⟨r3, σ4⟩, e5, h⟩ := zb_o h
      refine za_calli (za_runV hx hb hml hown hts hK hI g2 (zm_Mo_gives e5) zj_Mo_143 ⟨rfl, rfl⟩ ⟨Nat.le_of_ble_eq_true rfl, Nat.le_of_ble_eq_true rfl⟩ rfl hl.1 rfl (Nat.le_of_ble_eq_true rfl) zd_Mo_mayAccept_87 ⟨Nat.le_of_ble_eq_true rfl, Nat.le_of_ble_eq_true rfl⟩) hI (fun H locs hI => ?_)
      refine lv_if_eq hx hb (tgt := 97) zd_Mo_mayAccept_90 (by decide) (fun c6 => ?_) (fun c6 => ?_)
      · replace h := zb_t c6 h
        refine lv_iconst (v := nI 0) hx hb zd_Mo_mayAccept_97 (by decide) ?_
        exact B98 _ _ ls (nI 0) σ4 hI (lv_sub hl [] rfl) h
      · replace h := zb_f c6 h
        exact B93 _ _ ls σ4 hI (lv_sub hl [] rfl) h
  have B36 : ∀ (H : Heap) (locs : List Loc) (ls : Array Slot) (a0 : Nat) (x1 : Int32) (x2 : Int32) (x3 : Int32) (σ : za_h), za_I D ca n0 s σ H locs → lv_has ls 7 [(0, .ref a0), (1, .int x1), (2, .int x2), (3, .int x3)] → zf_Mo_mayAccept_36 a0 x1 x2 x3 σ = some (r, σ') → W p l e ({ frames := 3, cells := 0, slots := 0, locals := 76 }) s m ([.ref ay0, .int xy1, .int xy2, .int xy3] : List Value).toArray below meth c H locs 0 0 (MQ below (za_Qi D ca n0 r σ') ([.ref ay0, .int xy1, .int xy2, .int xy3] : List Value).toArray s 0 0 (za_A n0)) (F0 m 36 ls []) := by
    intro H locs ls a0 x1 x2 x3 σ hI hl h
    unfold zf_Mo_mayAccept_36 at h
    refine lv_aload_n hx hb zd_Mo_mayAccept_36 rfl (lv_at hl 0 rfl) ?_
    refine lv_iload_n hx hb zd_Mo_mayAccept_37 rfl (lv_at hl 1 rfl) ?_
    refine lv_iload_n hx hb zd_Mo_mayAccept_38 rfl (lv_at hl 2 rfl) ?_
    refine lv_iload_n hx hb zd_Mo_mayAccept_39 rfl (lv_at hl 3 rfl) ?_
    refine lv_iconst (v := nI 0) hx hb zd_Mo_mayAccept_40 (by decide) ?_
    obtain ⟨_, g1, h⟩ := zb_o h
    obtain ⟨⟨r2, σ3⟩, e4, h⟩ := zb_o h
    refine za_calli (za_runV hx hb hml hown hts hK hI g1 (zm_Mo_nodes e4) zj_Mo_139 ⟨rfl, rfl⟩ ⟨Nat.le_of_ble_eq_true rfl, Nat.le_of_ble_eq_true rfl⟩ rfl hl.1 rfl (Nat.le_of_ble_eq_true rfl) zd_Mo_mayAccept_41 ⟨Nat.le_of_ble_eq_true rfl, Nat.le_of_ble_eq_true rfl⟩) hI (fun H locs hI => ?_)
    refine lv_istore (lv' := [(4, .int r2), (0, .ref a0), (1, .int x1), (2, .int x2), (3, .int x3)]) hx hb zd_Mo_mayAccept_44 hl (Nat.le_of_ble_eq_true rfl) rfl (fun ls hl => ?_)
    refine lv_aload_n hx hb zd_Mo_mayAccept_46 rfl (lv_at hl 1 rfl) ?_
    refine lv_iload_n hx hb zd_Mo_mayAccept_47 rfl (lv_at hl 2 rfl) ?_
    refine lv_iload_n hx hb zd_Mo_mayAccept_48 rfl (lv_at hl 3 rfl) ?_
    refine lv_iload_n hx hb zd_Mo_mayAccept_49 rfl (lv_at hl 4 rfl) ?_
    refine lv_iconst (v := nI 1) hx hb zd_Mo_mayAccept_50 (by decide) ?_
    obtain ⟨_, g5, h⟩ := zb_o h
    obtain ⟨⟨r6, σ7⟩, e8, h⟩ := zb_o h
    refine za_calli (za_runV hx hb hml hown hts hK hI g5 (zm_Mo_nodes e8) zj_Mo_139 ⟨rfl, rfl⟩ ⟨Nat.le_of_ble_eq_true rfl, Nat.le_of_ble_eq_true rfl⟩ rfl hl.1 rfl (Nat.le_of_ble_eq_true rfl) zd_Mo_mayAccept_51 ⟨Nat.le_of_ble_eq_true rfl, Nat.le_of_ble_eq_true rfl⟩) hI (fun H locs hI => ?_)
    refine lv_istore (lv' := [(5, .int r6), (4, .int r2), (0, .ref a0), (1, .int x1), (2, .int x2), (3, .int x3)]) hx hb zd_Mo_mayAccept_54 hl (Nat.le_of_ble_eq_true rfl) rfl (fun ls hl => ?_)
    refine lv_aload_n hx hb zd_Mo_mayAccept_56 rfl (lv_at hl 2 rfl) ?_
    refine lv_bipush (v := nI 31) hx hb zd_Mo_mayAccept_57 (by decide) ?_
    refine lv_iload hx hb zd_Mo_mayAccept_59 (lv_at hl 0 rfl) ?_
    refine lv_iconst (v := -1) hx hb zd_Mo_mayAccept_61 (by decide) ?_
    refine lv_ixor hx hb zd_Mo_mayAccept_62 ?_
    refine lv_iand hx hb zd_Mo_mayAccept_63 ?_
    refine lv_iload_n hx hb zd_Mo_mayAccept_64 rfl (lv_at hl 3 rfl) ?_
    obtain ⟨_, g9, h⟩ := zb_o h
    obtain ⟨⟨r10, σ11⟩, e12, h⟩ := zb_o h
    refine za_calli (za_runV hx hb hml hown hts hK hI g9 (zm_Mo_satisfies e12) zj_Mo_113 ⟨rfl, rfl⟩ ⟨Nat.le_of_ble_eq_true rfl, Nat.le_of_ble_eq_true rfl⟩ rfl hl.1 rfl (Nat.le_of_ble_eq_true rfl) zd_Mo_mayAccept_65 ⟨Nat.le_of_ble_eq_true rfl, Nat.le_of_ble_eq_true rfl⟩) hI (fun H locs hI => ?_)
    refine lv_if_ne hx hb (tgt := 75) zd_Mo_mayAccept_68 (by decide) (fun c13 => ?_) (fun c13 => ?_)
    · replace h := zb_f c13 h
      refine lv_iconst (v := nI 0) hx hb zd_Mo_mayAccept_75 (by decide) ?_
      exact B76 _ _ ls a0 x1 r2 (nI 0) σ11 hI (lv_sub hl [2, 3, 1] rfl) h
    · replace h := zb_t c13 h
      refine lv_iconst (v := nI 1) hx hb zd_Mo_mayAccept_71 (by decide) ?_
      refine lv_goto hx hb (tgt := 76) zd_Mo_mayAccept_72 (by decide) ?_
      exact B76 _ _ ls a0 x1 r2 (nI 1) σ11 hI (lv_sub hl [2, 3, 1] rfl) h
  have B34 : ∀ (H : Heap) (locs : List Loc) (ls : Array Slot) (σ : za_h), za_I D ca n0 s σ H locs → lv_has ls 7 [] → zf_Mo_mayAccept_34 σ = some (r, σ') → W p l e ({ frames := 3, cells := 0, slots := 0, locals := 76 }) s m ([.ref ay0, .int xy1, .int xy2, .int xy3] : List Value).toArray below meth c H locs 0 0 (MQ below (za_Qi D ca n0 r σ') ([.ref ay0, .int xy1, .int xy2, .int xy3] : List Value).toArray s 0 0 (za_A n0)) (F0 m 34 ls []) := by
    intro H locs ls σ hI hl h
    unfold zf_Mo_mayAccept_34 at h
    refine lv_iconst (v := nI 0) hx hb zd_Mo_mayAccept_34 (by decide) ?_
    exact za_zret hx hb hr hlk hI (by decide) h (Nat.le_of_ble_eq_true rfl) (Nat.le_of_ble_eq_true rfl) zd_Mo_mayAccept_35
  have B17 : ∀ (H : Heap) (locs : List Loc) (ls : Array Slot) (a0 : Nat) (x1 : Int32) (x2 : Int32) (x3 : Int32) (σ : za_h), za_I D ca n0 s σ H locs → lv_has ls 7 [(0, .ref a0), (1, .int x1), (2, .int x2), (3, .int x3)] → zf_Mo_mayAccept_17 a0 x1 x2 x3 σ = some (r, σ') → W p l e ({ frames := 3, cells := 0, slots := 0, locals := 76 }) s m ([.ref ay0, .int xy1, .int xy2, .int xy3] : List Value).toArray below meth c H locs 0 0 (MQ below (za_Qi D ca n0 r σ') ([.ref ay0, .int xy1, .int xy2, .int xy3] : List Value).toArray s 0 0 (za_A n0)) (F0 m 17 ls []) := by
    intro H locs ls a0 x1 x2 x3 σ hI hl h
    unfold zf_Mo_mayAccept_17 at h
    refine lv_iload_n hx hb zd_Mo_mayAccept_17 rfl (lv_at hl 2 rfl) ?_
    refine lv_iconst (v := nI 2) hx hb zd_Mo_mayAccept_18 (by decide) ?_
    refine lv_icmp_ne hx hb (tgt := 36) zd_Mo_mayAccept_19 (by decide) (fun c1 => ?_) (fun c1 => ?_)
    · replace h := zb_f c1 h
      exact B36 _ _ ls a0 x1 x2 x3 σ hI (lv_sub hl [0, 1, 2, 3] rfl) h
    · replace h := zb_t c1 h
      refine lv_aload_n hx hb zd_Mo_mayAccept_22 rfl (lv_at hl 0 rfl) ?_
      refine lv_iload_n hx hb zd_Mo_mayAccept_23 rfl (lv_at hl 1 rfl) ?_
      refine lv_iconst (v := nI 1) hx hb zd_Mo_mayAccept_24 (by decide) ?_
      refine lv_iconst (v := nI 1) hx hb zd_Mo_mayAccept_25 (by decide) ?_
      refine lv_iload_n hx hb zd_Mo_mayAccept_26 rfl (lv_at hl 3 rfl) ?_
      refine lv_iconst (v := nI 1) hx hb zd_Mo_mayAccept_27 (by decide) ?_
      obtain ⟨_, g2, h⟩ := zb_o h
      obtain ⟨⟨r3, σ4⟩, e5, h⟩ := zb_o h
      refine za_calli (za_runV hx hb hml hown hts hK hI g2 (zm_Mo_clash e5) zj_Mo_135 ⟨rfl, rfl⟩ ⟨Nat.le_of_ble_eq_true rfl, Nat.le_of_ble_eq_true rfl⟩ rfl hl.1 rfl (Nat.le_of_ble_eq_true rfl) zd_Mo_mayAccept_28 ⟨Nat.le_of_ble_eq_true rfl, Nat.le_of_ble_eq_true rfl⟩) hI (fun H locs hI => ?_)
      refine lv_if_eq hx hb (tgt := 36) zd_Mo_mayAccept_31 (by decide) (fun c6 => ?_) (fun c6 => ?_)
      · replace h := zb_t c6 h
        exact B36 _ _ ls a0 x1 x2 x3 σ4 hI (lv_sub hl [0, 1, 2, 3] rfl) h
      · replace h := zb_f c6 h
        exact B34 _ _ ls σ4 hI (lv_sub hl [] rfl) h
  unfold zf_Mo_mayAccept at h
  refine lv_iload_n hx hb zd_Mo_mayAccept_0 rfl (lv_at hl 2 rfl) ?_
  refine lv_iconst (v := nI 1) hx hb zd_Mo_mayAccept_1 (by decide) ?_
  refine lv_icmp_ne hx hb (tgt := 17) zd_Mo_mayAccept_2 (by decide) (fun c1 => ?_) (fun c1 => ?_)
  · replace h := zb_f c1 h
    exact B17 _ _ ls ay0 xy1 xy2 xy3 σ hI (lv_sub hl [0, 1, 2, 3] rfl) h
  · replace h := zb_t c1 h
    refine lv_aload_n hx hb zd_Mo_mayAccept_5 rfl (lv_at hl 0 rfl) ?_
    refine lv_iload_n hx hb zd_Mo_mayAccept_6 rfl (lv_at hl 1 rfl) ?_
    refine lv_iconst (v := nI 2) hx hb zd_Mo_mayAccept_7 (by decide) ?_
    refine lv_iconst (v := nI 1) hx hb zd_Mo_mayAccept_8 (by decide) ?_
    refine lv_iload_n hx hb zd_Mo_mayAccept_9 rfl (lv_at hl 3 rfl) ?_
    refine lv_iconst (v := nI 0) hx hb zd_Mo_mayAccept_10 (by decide) ?_
    obtain ⟨_, g2, h⟩ := zb_o h
    obtain ⟨⟨r3, σ4⟩, e5, h⟩ := zb_o h
    refine za_calli (za_runV hx hb hml hown hts hK hI g2 (zm_Mo_clash e5) zj_Mo_135 ⟨rfl, rfl⟩ ⟨Nat.le_of_ble_eq_true rfl, Nat.le_of_ble_eq_true rfl⟩ rfl hl.1 rfl (Nat.le_of_ble_eq_true rfl) zd_Mo_mayAccept_11 ⟨Nat.le_of_ble_eq_true rfl, Nat.le_of_ble_eq_true rfl⟩) hI (fun H locs hI => ?_)
    refine lv_if_ne hx hb (tgt := 34) zd_Mo_mayAccept_14 (by decide) (fun c6 => ?_) (fun c6 => ?_)
    · replace h := zb_f c6 h
      exact B34 _ _ ls σ4 hI (lv_sub hl [] rfl) h
    · replace h := zb_t c6 h
      exact B17 _ _ ls ay0 xy1 xy2 xy3 σ4 hI (lv_sub hl [0, 1, 2, 3] rfl) h
