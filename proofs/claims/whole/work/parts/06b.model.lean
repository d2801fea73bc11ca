def zf_Mo_mayConfirm (ay0 : Nat) (xy1 : Int32) (xy2 : Int32) (xy3 : Int32) (σ : za_h) : Option (Int32 × za_h) :=
  (zg_c σ ay0 10).bind fun _ =>
  (zf_Mo_nodes ay0 xy1 xy2 xy3 (nI 1) σ).bind fun (r2, σ3) =>
  (zg_c σ3 ay0 10).bind fun _ =>
  (zf_Mo_gives ay0 r2 xy1 σ3).bind fun (r6, σ7) =>
  if r6 = 0 ∨ r6 = 1 then some (r6, σ7) else none
set_option maxRecDepth 100000 in
set_option maxHeartbeats 4000000 in
theorem zm_Mo_mayConfirm {l : Launch} {D : va_G} {ca : Nat → ClassId} {n0 : Nat} {ay0 : Nat} {xy1 : Int32} {xy2 : Int32} {xy3 : Int32} {σ σ' : za_h} {r : Int32} (h : zf_Mo_mayConfirm ay0 xy1 xy2 xy3 σ = some (r, σ')) : Met l zy_Mo_mayConfirm (za_wy zy_Mo_mayConfirm zc_Mo_mayConfirm 5 (some .boolean)) { frames := 3, cells := 0, slots := 0, locals := 76 } (za_Pc D ca n0 [.ref ay0, .int xy1, .int xy2, .int xy3] σ) (za_Qi D ca n0 r σ') 0 0 (za_A n0) := by
  refine za_met (by decide) (Nat.le_of_ble_eq_true rfl) ?_
  intro p e s m below meth c ls hx hb hml hr hlk hts hown hnm hK hI hl
  replace hown : s.vm.findClass zR_Mo = some m.cls := hown
  replace hl : lv_has ls 5 [(0, .ref ay0), (1, .int xy1), (2, .int xy2), (3, .int xy3)] := hl
  unfold zf_Mo_mayConfirm at h
  refine lv_aload_n hx hb zd_Mo_mayConfirm_0 rfl (lv_at hl 0 rfl) ?_
  refine lv_iload_n hx hb zd_Mo_mayConfirm_1 rfl (lv_at hl 1 rfl) ?_
  refine lv_iload_n hx hb zd_Mo_mayConfirm_2 rfl (lv_at hl 2 rfl) ?_
  refine lv_iload_n hx hb zd_Mo_mayConfirm_3 rfl (lv_at hl 3 rfl) ?_
  refine lv_iconst (v := nI 1) hx hb zd_Mo_mayConfirm_4 (by decide) ?_
  obtain ⟨_, g1, h⟩ := zb_o h
  obtain ⟨⟨r2, σ3⟩, e4, h⟩ := zb_o h
  refine za_calli (za_runV hx hb hml hown hts hK hI g1 (zm_Mo_nodes e4) zj_Mo_139 ⟨rfl, rfl⟩ ⟨Nat.le_of_ble_eq_true rfl, Nat.le_of_ble_eq_true rfl⟩ rfl hl.1 rfl (Nat.le_of_ble_eq_true rfl) zd_Mo_mayConfirm_5 ⟨Nat.le_of_ble_eq_true rfl, Nat.le_of_ble_eq_true rfl⟩) hI (fun H locs hI => ?_)
  refine lv_istore (lv' := [(4, .int r2), (0, .ref ay0), (1, .int xy1), (2, .int xy2), (3, .int xy3)]) hx hb zd_Mo_mayConfirm_8 hl (Nat.le_of_ble_eq_true rfl) rfl (fun ls hl => ?_)
  refine lv_aload_n hx hb zd_Mo_mayConfirm_10 rfl (lv_at hl 1 rfl) ?_
  refine lv_iload hx hb zd_Mo_mayConfirm_11 (lv_at hl 0 rfl) ?_
  refine lv_iload_n hx hb zd_Mo_mayConfirm_13 rfl (lv_at hl 2 rfl) ?_
  obtain ⟨_, g5, h⟩ := zb_o h
  obtain ⟨⟨r6, σ7⟩, e8, h⟩ := zb_o h
  refine za_calli (za_runV hx hb hml hown hts hK hI g5 (zm_Mo_gives e8) zj_Mo_143 ⟨rfl, rfl⟩ ⟨Nat.le_of_ble_eq_true rfl, Nat.le_of_ble_eq_true rfl⟩ rfl hl.1 rfl (Nat.le_of_ble_eq_true rfl) zd_Mo_mayConfirm_14 ⟨Nat.le_of_ble_eq_true rfl, Nat.le_of_ble_eq_true rfl⟩) hI (fun H locs hI => ?_)
  obtain ⟨g9, h⟩ := zb_g h
  exact za_zret hx hb hr hlk hI g9 h (Nat.le_of_ble_eq_true rfl) (Nat.le_of_ble_eq_true rfl) zd_Mo_mayConfirm_17

def zf_Mo_composite_28 (k4 : Nat → Int32 → Int32 → Int32 → za_h → Option (Int32 × za_h)) (a0 : Nat) (x1 : Int32) (x3 : Int32) (xs0 : Int32) (σ : za_h) : Option (Int32 × za_h) :=
  k4 a0 x1 xs0 (x3 + nI 1) σ

def zf_Mo_composite_4 : Nat → Nat → Int32 → Int32 → Int32 → za_h → Option (Int32 × za_h)
  | 0, _, _, _, _, _ => none
  | n + 1, a0, x1, x2, x3, σ =>
  if (nI 8) ≤ x3 then
  (some (x2, σ))
  else
  ((zg_c σ a0 10).bind fun _ =>
  (zf_Mo_has a0 x1 (nI 0) (nI 2) x3 σ).bind fun (r3, σ4) =>
  if r3 = 0 then
  (zf_Mo_composite_28 (zf_Mo_composite_4 n) a0 x1 x3 x2 σ4)
  else
  (zf_Mo_composite_28 (zf_Mo_composite_4 n) a0 x1 x3 (x2 ||| x3) σ4))

def zf_Mo_composite (ay0 : Nat) (xy1 : Int32) (σ : za_h) : Option (Int32 × za_h) :=
  zf_Mo_composite_4 8 ay0 xy1 (nI 0) (nI 1) σ
set_option maxRecDepth 100000 in
set_option maxHeartbeats 4000000 in
theorem zm_Mo_composite {l : Launch} {D : va_G} {ca : Nat → ClassId} {n0 : Nat} {ay0 : Nat} {xy1 : Int32} {σ σ' : za_h} {r : Int32} (h : zf_Mo_composite ay0 xy1 σ = some (r, σ')) : Met l zy_Mo_composite (za_wy zy_Mo_composite zc_Mo_composite 4 (some .int)) { frames := 2, cells := 0, slots := 0, locals := 47 } (za_Pc D ca n0 [.ref ay0, .int xy1] σ) (za_Qi D ca n0 r σ') 0 0 (za_A n0) := by
  refine za_met (by decide) (Nat.le_of_ble_eq_true rfl) ?_
  intro p e s m below meth c ls hx hb hml hr hlk hts hown hnm hK hI hl
  replace hown : s.vm.findClass zR_Mo = some m.cls := hown
  replace hl : lv_has ls 4 [(0, .ref ay0), (1, .int xy1)] := hl
  have B28 : ∀ (k4 : Nat → Int32 → Int32 → Int32 → za_h → Option (Int32 × za_h)), (∀ (H : Heap) (locs : List Loc) (ls : Array Slot) (a0 : Nat) (x1 : Int32) (x2 : Int32) (x3 : Int32) (σ : za_h), za_I D ca n0 s σ H locs → lv_has ls 4 [(0, .ref a0), (1, .int x1), (2, .int x2), (3, .int x3)] → k4 a0 x1 x2 x3 σ = some (r, σ') → W p l e ({ frames := 2, cells := 0, slots := 0, locals := 47 }) s m ([.ref ay0, .int xy1] : List Value).toArray below meth c H locs 0 0 (MQ below (za_Qi D ca n0 r σ') ([.ref ay0, .int xy1] : List Value).toArray s 0 0 (za_A n0)) (F0 m 4 ls [])) → ∀ (H : Heap) (locs : List Loc) (ls : Array Slot) (a0 : Nat) (x1 : Int32) (x3 : Int32) (xs0 : Int32) (σ : za_h), za_I D ca n0 s σ H locs → lv_has ls 4 [(0, .ref a0), (1, .int x1), (3, .int x3)] → zf_Mo_composite_28 k4 a0 x1 x3 xs0 σ = some (r, σ') → W p l e ({ frames := 2, cells := 0, slots := 0, locals := 47 }) s m ([.ref ay0, .int xy1] : List Value).toArray below meth c H locs 0 0 (MQ below (za_Qi D ca n0 r σ') ([.ref ay0, .int xy1] : List Value).toArray s 0 0 (za_A n0)) (F0 m 28 ls [.int xs0]) := by
    intro k4 hk4 H locs ls a0 x1 x3 xs0 σ hI hl h
    unfold zf_Mo_composite_28 at h
    refine lv_istore_n (lv' := [(2, .int xs0), (0, .ref a0), (1, .int x1), (3, .int x3)]) hx hb zd_Mo_composite_28 rfl hl (Nat.le_of_ble_eq_true rfl) rfl (fun ls hl => ?_)
    refine lv_iinc (k := 3) (v := (x3 + nI 1)) (lv' := [(3, .int (x3 + nI 1)), (2, .int xs0), (0, .ref a0), (1, .int x1)]) hx hb zd_Mo_composite_29 hl rfl rfl (Nat.le_of_ble_eq_true rfl) rfl (fun ls hl => ?_)
    refine lv_goto hx hb (tgt := 4) zd_Mo_composite_32 (by decide) ?_
    exact hk4 _ _ ls a0 x1 xs0 (x3 + nI 1) σ hI (lv_sub hl [2, 3, 1, 0] rfl) h
  have B4 : ∀ n : Nat, ∀ (H : Heap) (locs : List Loc) (ls : Array Slot) (a0 : Nat) (x1 : Int32) (x2 : Int32) (x3 : Int32) (σ : za_h), za_I D ca n0 s σ H locs → lv_has ls 4 [(0, .ref a0), (1, .int x1), (2, .int x2), (3, .int x3)] → zf_Mo_composite_4 n a0 x1 x2 x3 σ = some (r, σ') → W p l e ({ frames := 2, cells := 0, slots := 0, locals := 47 }) s m ([.ref ay0, .int xy1] : List Value).toArray below meth c H locs 0 0 (MQ below (za_Qi D ca n0 r σ') ([.ref ay0, .int xy1] : List Value).toArray s 0 0 (za_A n0)) (F0 m 4 ls []) := by
    intro n
    induction n with
    | zero => intro H locs ls a0 x1 x2 x3 σ hI hl h; rw [zf_Mo_composite_4] at h; cases h
    | succ n ih =>
      intro H locs ls a0 x1 x2 x3 σ hI hl h
      rw [zf_Mo_composite_4] at h
      refine lv_iload_n hx hb zd_Mo_composite_4 rfl (lv_at hl 3 rfl) ?_
      refine lv_bipush (v := nI 8) hx hb zd_Mo_composite_5 (by decide) ?_
      refine lv_icmp_ge hx hb (tgt := 35) zd_Mo_composite_7 (by decide) (fun c1 => ?_) (fun c1 => ?_)
      · replace h := zb_t c1 h
        refine lv_iload_n hx hb zd_Mo_composite_35 rfl (lv_at hl 2 rfl) ?_
        exact za_iret hx hb hr hlk hI h (Nat.le_of_ble_eq_true rfl) (Nat.le_of_ble_eq_true rfl) zd_Mo_composite_36
      · replace h := zb_f c1 h
        refine lv_aload_n hx hb zd_Mo_composite_10 rfl (lv_at hl 0 rfl) ?_
        refine lv_iload_n hx hb zd_Mo_composite_11 rfl (lv_at hl 1 rfl) ?_
        refine lv_iconst (v := nI 0) hx hb zd_Mo_composite_12 (by decide) ?_
        refine lv_iconst (v := nI 2) hx hb zd_Mo_composite_13 (by decide) ?_
        refine lv_iload_n hx hb zd_Mo_composite_14 rfl (lv_at hl 3 rfl) ?_
        obtain ⟨_, g2, h⟩ := zb_o h
        obtain ⟨⟨r3, σ4⟩, e5, h⟩ := zb_o h
        refine za_calli (za_runV hx hb hml hown hts hK hI g2 (zm_Mo_has e5) zj_Mo_125 ⟨rfl, rfl⟩ ⟨Nat.le_of_ble_eq_true rfl, Nat.le_of_ble_eq_true rfl⟩ rfl hl.1 rfl (Nat.le_of_ble_eq_true rfl) zd_Mo_composite_15 ⟨Nat.le_of_ble_eq_true rfl, Nat.le_of_ble_eq_true rfl⟩) hI (fun H locs hI => ?_)
        refine lv_if_eq hx hb (tgt := 27) zd_Mo_composite_18 (by decide) (fun c6 => ?_) (fun c6 => ?_)
        · replace h := zb_t c6 h
          refine lv_iload_n hx hb zd_Mo_composite_27 rfl (lv_at hl 2 rfl) ?_
          exact B28 _ ih _ _ ls a0 x1 x3 x2 σ4 hI (lv_sub hl [0, 1, 3] rfl) h
        · replace h := zb_f c6 h
          refine lv_iload_n hx hb zd_Mo_composite_21 rfl (lv_at hl 2 rfl) ?_
          refine lv_iload_n hx hb zd_Mo_composite_22 rfl (lv_at hl 3 rfl) ?_
          refine lv_ior hx hb zd_Mo_composite_23 ?_
          refine lv_goto hx hb (tgt := 28) zd_Mo_composite_24 (by decide) ?_
          exact B28 _ ih _ _ ls a0 x1 x3 (x2 ||| x3) σ4 hI (lv_sub hl [0, 1, 3] rfl) h
  unfold zf_Mo_composite at h
  refine lv_iconst (v := nI 0) hx hb zd_Mo_composite_0 (by decide) ?_
  refine lv_istore_n (lv' := [(2, .int (nI 0)), (0, .ref ay0), (1, .int xy1)]) hx hb zd_Mo_composite_1 rfl hl (Nat.le_of_ble_eq_true rfl) rfl (fun ls hl => ?_)
  refine lv_iconst (v := nI 1) hx hb zd_Mo_composite_2 (by decide) ?_
  refine lv_istore_n (lv' := [(3, .int (nI 1)), (2, .int (nI 0)), (0, .ref ay0), (1, .int xy1)]) hx hb zd_Mo_composite_3 rfl hl (Nat.le_of_ble_eq_true rfl) rfl (fun ls hl => ?_)
  exact B4 8 _ _ ls ay0 xy1 (nI 0) (nI 1) σ hI (lv_sub hl [2, 3, 1, 0] rfl) h

def zf_Mo_toPrepare_3 : Nat → Nat → Int32 → Int32 → za_h → Option (Int32 × za_h)
  | 0, _, _, _, _ => none
  | n + 1, a0, x1, x2, σ =>
  if x2 < 0 then
  ((zg_c σ a0 10).bind fun _ =>
  (zf_Mo_composite a0 x1 σ).bind fun (r3, σ4) =>
  some (r3, σ4))
  else
  ((zg_c σ a0 10).bind fun _ =>
  (zf_Mo_has a0 x1 (nI 1) (nI 2) x2 σ).bind fun (r7, σ8) =>
  if r7 = 0 then
  (zf_Mo_toPrepare_3 n a0 x1 (x2 + (-1)) σ8)
  else
  ((zf_Mo_worth x2 σ8).bind fun (r11, σ12) =>
  some (r11, σ12)))

def zf_Mo_toPrepare (ay0 : Nat) (xy1 : Int32) (σ : za_h) : Option (Int32 × za_h) :=
  zf_Mo_toPrepare_3 29 ay0 xy1 (nI 27) σ
set_option maxRecDepth 100000 in
set_option maxHeartbeats 4000000 in
theorem zm_Mo_toPrepare {l : Launch} {D : va_G} {ca : Nat → ClassId} {n0 : Nat} {ay0 : Nat} {xy1 : Int32} {σ σ' : za_h} {r : Int32} (h : zf_Mo_toPrepare ay0 xy1 σ = some (r, σ')) : Met l zy_Mo_toPrepare (za_wy zy_Mo_toPrepare zc_Mo_toPrepare 3 (some .int)) { frames := 3, cells := 0, slots := 0, locals := 70 } (za_Pc D ca n0 [.ref ay0, .int xy1] σ) (za_Qi D ca n0 r σ') 0 0 (za_A n0) := by
  refine za_met (by decide) (Nat.le_of_ble_eq_true rfl) ?_
  intro p e s m below meth c ls hx hb hml hr hlk hts hown hnm hK hI hl
  replace hown : s.vm.findClass zR_Mo = some m.cls := hown
  replace hl : lv_has ls 3 [(0, .ref ay0), (1, .int xy1)] := hl
  have B3 : ∀ n : Nat, ∀ (H : Heap) (locs : List Loc) (ls : Array Slot) (a0 : Nat) (x1 : Int32) (x2 : Int32) (σ : za_h), za_I D ca n0 s σ H locs → lv_has ls 3 [(0, .ref a0), (1, .int x1), (2, .int x2)] → zf_Mo_toPrepare_3 n a0 x1 x2 σ = some (r, σ') → W p l e ({ frames := 3, cells := 0, slots := 0, locals := 70 }) s m ([.ref ay0, .int xy1] : List Value).toArray below meth c H locs 0 0 (MQ below (za_Qi D ca n0 r σ') ([.ref ay0, .int xy1] : List Value).toArray s 0 0 (za_A n0)) (F0 m 3 ls []) := by
    intro n
    induction n with
    | zero => intro H locs ls a0 x1 x2 σ hI hl h; rw [zf_Mo_toPrepare_3] at h; cases h
    | succ n ih =>
      intro H locs ls a0 x1 x2 σ hI hl h
      rw [zf_Mo_toPrepare_3] at h
      refine lv_iload_n hx hb zd_Mo_toPrepare_3 rfl (lv_at hl 2 rfl) ?_
      refine lv_if_lt hx hb (tgt := 29) zd_Mo_toPrepare_4 (by decide) (fun c1 => ?_) (fun c1 => ?_)
      · replace h := zb_t c1 h
        refine lv_aload_n hx hb zd_Mo_toPrepare_29 rfl (lv_at hl 0 rfl) ?_
        refine lv_iload_n hx hb zd_Mo_toPrepare_30 rfl (lv_at hl 1 rfl) ?_
        obtain ⟨_, g2, h⟩ := zb_o h
        obtain ⟨⟨r3, σ4⟩, e5, h⟩ := zb_o h
        refine za_calli (za_runV hx hb hml hown hts hK hI g2 (zm_Mo_composite e5) zj_Mo_146 ⟨rfl, rfl⟩ ⟨Nat.le_of_ble_eq_true rfl, Nat.le_of_ble_eq_true rfl⟩ rfl hl.1 rfl (Nat.le_of_ble_eq_true rfl) zd_Mo_toPrepare_31 ⟨Nat.le_of_ble_eq_true rfl, Nat.le_of_ble_eq_true rfl⟩) hI (fun H locs hI => ?_)
        exact za_iret hx hb hr hlk hI h (Nat.le_of_ble_eq_true rfl) (Nat.le_of_ble_eq_true rfl) zd_Mo_toPrepare_34
      · replace h := zb_f c1 h
        refine lv_aload_n hx hb zd_Mo_toPrepare_7 rfl (lv_at hl 0 rfl) ?_
        refine lv_iload_n hx hb zd_Mo_toPrepare_8 rfl (lv_at hl 1 rfl) ?_
        refine lv_iconst (v := nI 1) hx hb zd_Mo_toPrepare_9 (by decide) ?_
        refine lv_iconst (v := nI 2) hx hb zd_Mo_toPrepare_10 (by decide) ?_
        refine lv_iload_n hx hb zd_Mo_toPrepare_11 rfl (lv_at hl 2 rfl) ?_
        obtain ⟨_, g6, h⟩ := zb_o h
        obtain ⟨⟨r7, σ8⟩, e9, h⟩ := zb_o h
        refine za_calli (za_runV hx hb hml hown hts hK hI g6 (zm_Mo_has e9) zj_Mo_125 ⟨rfl, rfl⟩ ⟨Nat.le_of_ble_eq_true rfl, Nat.le_of_ble_eq_true rfl⟩ rfl hl.1 rfl (Nat.le_of_ble_eq_true rfl) zd_Mo_toPrepare_12 ⟨Nat.le_of_ble_eq_true rfl, Nat.le_of_ble_eq_true rfl⟩) hI (fun H locs hI => ?_)
        refine lv_if_eq hx hb (tgt := 23) zd_Mo_toPrepare_15 (by decide) (fun c10 => ?_) (fun c10 => ?_)
        · replace h := zb_t c10 h
          refine lv_iinc (k := 2) (v := (x2 + (-1))) (lv' := [(2, .int (x2 + (-1))), (0, .ref a0), (1, .int x1)]) hx hb zd_Mo_toPrepare_23 hl rfl rfl (Nat.le_of_ble_eq_true rfl) rfl (fun ls hl => ?_)
          refine lv_goto hx hb (tgt := 3) zd_Mo_toPrepare_26 (by decide) ?_
          exact ih _ _ ls a0 x1 (x2 + (-1)) σ8 hI (lv_sub hl [1, 2, 0] rfl) h
        · replace h := zb_f c10 h
          refine lv_iload_n hx hb zd_Mo_toPrepare_18 rfl (lv_at hl 2 rfl) ?_
          obtain ⟨⟨r11, σ12⟩, e13, h⟩ := zb_o h
          refine za_calli (za_runS hx hb hml hown hts hK hI (zm_Mo_worth e13) zj_Mo_129 ⟨rfl, rfl⟩ ⟨Nat.le_of_ble_eq_true rfl, Nat.le_of_ble_eq_true rfl⟩ rfl hl.1 rfl (Nat.le_of_ble_eq_true rfl) zd_Mo_toPrepare_19 ⟨Nat.le_of_ble_eq_true rfl, Nat.le_of_ble_eq_true rfl⟩) hI (fun H locs hI => ?_)
          exact za_iret hx hb hr hlk hI h (Nat.le_of_ble_eq_true rfl) (Nat.le_of_ble_eq_true rfl) zd_Mo_toPrepare_22
  unfold zf_Mo_toPrepare at h
  refine lv_bipush (v := nI 27) hx hb zd_Mo_toPrepare_0 (by decide) ?_
  refine lv_istore_n (lv' := [(2, .int (nI 27)), (0, .ref ay0), (1, .int xy1)]) hx hb zd_Mo_toPrepare_2 rfl hl (Nat.le_of_ble_eq_true rfl) rfl (fun ls hl => ?_)
  exact B3 29 _ _ ls ay0 xy1 (nI 27) σ hI (lv_sub hl [1, 2, 0] rfl) h

def zf_Mo_votePrepare (ay0 : Nat) (xy1 : Int32) (σ : za_h) : Option (Int32 × za_h) :=
  (zg_c σ ay0 10).bind fun _ =>
  (zf_Mo_toPrepare ay0 xy1 σ).bind fun (r2, σ3) =>
  (zg_r σ3 ay0 10 10).bind fun b6 =>
  (za_ld σ3 b6 0 xy1).bind fun v7 =>
  (zg_c σ3 ay0 10).bind fun _ =>
  (zf_Mo_put ay0 xy1 (nI 1) (nI 0) ((((nI 7) * (v7 - (nI 1))) + r2) - (nI 1)) σ3).bind fun (r10, σ11) =>
  if r10 = 0 ∨ r10 = 1 then some (r10, σ11) else none
set_option maxRecDepth 100000 in
set_option maxHeartbeats 4000000 in
theorem zm_Mo_votePrepare {l : Launch} {D : va_G} {ca : Nat → ClassId} {n0 : Nat} {ay0 : Nat} {xy1 : Int32} {σ σ' : za_h} {r : Int32} (h : zf_Mo_votePrepare ay0 xy1 σ = some (r, σ')) : Met l zy_Mo_votePrepare (za_wy zy_Mo_votePrepare zc_Mo_votePrepare 3 (some .boolean)) { frames := 4, cells := 0, slots := 0, locals := 92 } (za_Pc D ca n0 [.ref ay0, .int xy1] σ) (za_Qi D ca n0 r σ') 0 0 (za_A n0) := by
  refine za_met (by decide) (Nat.le_of_ble_eq_true rfl) ?_
  intro p e s m below meth c ls hx hb hml hr hlk hts hown hnm hK hI hl
  replace hown : s.vm.findClass zR_Mo = some m.cls := hown
  replace hl : lv_has ls 3 [(0, .ref ay0), (1, .int xy1)] := hl
  unfold zf_Mo_votePrepare at h
  refine lv_aload_n hx hb zd_Mo_votePrepare_0 rfl (lv_at hl 0 rfl) ?_
  refine lv_iload_n hx hb zd_Mo_votePrepare_1 rfl (lv_at hl 1 rfl) ?_
  obtain ⟨_, g1, h⟩ := zb_o h
  obtain ⟨⟨r2, σ3⟩, e4, h⟩ := zb_o h
  refine za_calli (za_runV hx hb hml hown hts hK hI g1 (zm_Mo_toPrepare e4) zj_Mo_149 ⟨rfl, rfl⟩ ⟨Nat.le_of_ble_eq_true rfl, Nat.le_of_ble_eq_true rfl⟩ rfl hl.1 rfl (Nat.le_of_ble_eq_true rfl) zd_Mo_votePrepare_2 ⟨Nat.le_of_ble_eq_true rfl, Nat.le_of_ble_eq_true rfl⟩) hI (fun H locs hI => ?_)
  refine lv_istore_n (lv' := [(2, .int r2), (0, .ref ay0), (1, .int xy1)]) hx hb zd_Mo_votePrepare_5 rfl hl (Nat.le_of_ble_eq_true rfl) rfl (fun ls hl => ?_)
  refine lv_aload_n hx hb zd_Mo_votePrepare_6 rfl (lv_at hl 1 rfl) ?_
  refine lv_iload_n hx hb zd_Mo_votePrepare_7 rfl (lv_at hl 2 rfl) ?_
  refine lv_iconst (v := nI 1) hx hb zd_Mo_votePrepare_8 (by decide) ?_
  refine lv_iconst (v := nI 0) hx hb zd_Mo_votePrepare_9 (by decide) ?_
  refine lv_bipush (v := nI 7) hx hb zd_Mo_votePrepare_10 (by decide) ?_
  refine lv_aload_n hx hb zd_Mo_votePrepare_12 rfl (lv_at hl 1 rfl) ?_
  obtain ⟨b6, e5, h⟩ := zb_o h
  refine za_getr hx hb hts hown hK hI zl_Mo_35 e5 zd_Mo_votePrepare_13 ?_
  refine lv_iload_n hx hb zd_Mo_votePrepare_16 rfl (lv_at hl 2 rfl) ?_
  obtain ⟨v7, e8, h⟩ := zb_o h
  refine za_iald hx hb hK hI e8 zd_Mo_votePrepare_17 ?_
  refine lv_iconst (v := nI 1) hx hb zd_Mo_votePrepare_18 (by decide) ?_
  refine lv_isub hx hb zd_Mo_votePrepare_19 ?_
  refine lv_imul hx hb zd_Mo_votePrepare_20 ?_
  refine lv_iload_n hx hb zd_Mo_votePrepare_21 rfl (lv_at hl 0 rfl) ?_
  refine lv_iadd hx hb zd_Mo_votePrepare_22 ?_
  refine lv_iconst (v := nI 1) hx hb zd_Mo_votePrepare_23 (by decide) ?_
  refine lv_isub hx hb zd_Mo_votePrepare_24 ?_
  obtain ⟨_, g9, h⟩ := zb_o h
  obtain ⟨⟨r10, σ11⟩, e12, h⟩ := zb_o h
  refine za_calli (za_runV hx hb hml hown hts hK hI g9 (zm_Mo_put e12) zj_Mo_152 ⟨rfl, rfl⟩ ⟨Nat.le_of_ble_eq_true rfl, Nat.le_of_ble_eq_true rfl⟩ rfl hl.1 rfl (Nat.le_of_ble_eq_true rfl) zd_Mo_votePrepare_25 ⟨Nat.le_of_ble_eq_true rfl, Nat.le_of_ble_eq_true rfl⟩) hI (fun H locs hI => ?_)
  obtain ⟨g13, h⟩ := zb_g h
  exact za_zret hx hb hr hlk hI g13 h (Nat.le_of_ble_eq_true rfl) (Nat.le_of_ble_eq_true rfl) zd_Mo_votePrepare_28

def zf_Mo_ruleA_106 (k21 : Nat → Int32 → Int32 → Int32 → za_h → Option (Int32 × za_h)) (a0 : Nat) (x1 : Int32) (x2 : Int32) (x3 : Int32) (σ : za_h) : Option (Int32 × za_h) :=
  k21 a0 x1 x2 (x3 + nI 1) σ

def zf_Mo_ruleA_105 (k21 : Nat → Int32 → Int32 → Int32 → za_h → Option (Int32 × za_h)) (a0 : Nat) (x1 : Int32) (x3 : Int32) (xs0 : Int32) (σ : za_h) : Option (Int32 × za_h) :=
  zf_Mo_ruleA_106 k21 a0 x1 xs0 x3 σ

def zf_Mo_ruleA_100 (k21 : Nat → Int32 → Int32 → Int32 → za_h → Option (Int32 × za_h)) (a0 : Nat) (x1 : Int32) (x3 : Int32) (σ : za_h) : Option (Int32 × za_h) :=
  zf_Mo_ruleA_105 k21 a0 x1 x3 (nI 1) σ

def zf_Mo_ruleA_85 (k21 : Nat → Int32 → Int32 → Int32 → za_h → Option (Int32 × za_h)) (a0 : Nat) (x1 : Int32) (x2 : Int32) (x3 : Int32) (σ : za_h) : Option (Int32 × za_h) :=
  (zg_c σ a0 10).bind fun _ =>
  (zf_Mo_put a0 x1 (nI 0) (nI 0) x3 σ).bind fun (r2, σ3) =>
  if r2 = 0 then
  (if x2 = 0 then
  (zf_Mo_ruleA_105 k21 a0 x1 x3 (nI 0) σ3)
  else
  (zf_Mo_ruleA_100 k21 a0 x1 x3 σ3))
  else
  (zf_Mo_ruleA_100 k21 a0 x1 x3 σ3)

def zf_Mo_ruleA_66 (k21 : Nat → Int32 → Int32 → Int32 → za_h → Option (Int32 × za_h)) (a0 : Nat) (x1 : Int32) (x2 : Int32) (x3 : Int32) (x4 : Int32) (xs0 : Int32) (σ : za_h) : Option (Int32 × za_h) :=
  if xs0 = 0 then
  ((zg_r σ a0 10 9).bind fun b3 =>
  (za_ld σ b3 0 x1).bind fun v4 =>
  if (x4 &&& v4) = 0 then
  (zf_Mo_ruleA_106 k21 a0 x1 x2 x3 σ)
  else
  (zf_Mo_ruleA_85 k21 a0 x1 x2 x3 σ))
  else
  (zf_Mo_ruleA_85 k21 a0 x1 x2 x3 σ)

def zf_Mo_ruleA_65 (k21 : Nat → Int32 → Int32 → Int32 → za_h → Option (Int32 × za_h)) (a0 : Nat) (x1 : Int32) (x2 : Int32) (x3 : Int32) (x4 : Int32) (σ : za_h) : Option (Int32 × za_h) :=
  zf_Mo_ruleA_66 k21 a0 x1 x2 x3 x4 (nI 0) σ

def zf_Mo_ruleA_21 : Nat → Nat → Int32 → Int32 → Int32 → za_h → Option (Int32 × za_h)
  | 0, _, _, _, _, _ => none
  | n + 1, a0, x1, x2, x3, σ =>
  if (nI 8) ≤ x3 then
  (if x2 = 0 ∨ x2 = 1 then some (x2, σ) else none)
  else
  ((zg_c σ a0 10).bind fun _ =>
  (zf_Mo_nodes a0 x1 (nI 0) x3 (nI 0) σ).bind fun (r4, σ5) =>
  (zg_r σ5 a0 10 9).bind fun b8 =>
  (za_ld σ5 b8 0 x1).bind fun v9 =>
  if ((v9 >>> (x1 &&& 31)) &&& (nI 1)) = (nI 1) then
  ((zg_r σ5 a0 10 11).bind fun b13 =>
  (za_ld σ5 b13 0 x1).bind fun v14 =>
  if v14 = x3 then
  (zf_Mo_ruleA_66 (zf_Mo_ruleA_21 n) a0 x1 x2 x3 r4 (nI 1) σ5)
  else
  (zf_Mo_ruleA_65 (zf_Mo_ruleA_21 n) a0 x1 x2 x3 r4 σ5))
  else
  (zf_Mo_ruleA_65 (zf_Mo_ruleA_21 n) a0 x1 x2 x3 r4 σ5))

def zf_Mo_ruleA (ay0 : Nat) (xy1 : Int32) (σ : za_h) : Option (Int32 × za_h) :=
  (zg_r σ ay0 10 12).bind fun b2 =>
  (zg_c σ ay0 10).bind fun _ =>
  (zf_Mo_place ay0 xy1 (nI 0) (nI 2) σ).bind fun (r4, σ5) =>
  (za_ld σ5 b2 0 r4).bind fun v7 =>
  if v7 = 0 then
  (zf_Mo_ruleA_21 8 ay0 xy1 (nI 0) (nI 1) σ5)
  else
  (some ((nI 0), σ5))
set_option maxRecDepth 100000 in
set_option maxHeartbeats 4000000 in
theorem zm_Mo_ruleA {l : Launch} {D : va_G} {ca : Nat → ClassId} {n0 : Nat} {ay0 : Nat} {xy1 : Int32} {σ σ' : za_h} {r : Int32} (h : zf_Mo_ruleA ay0 xy1 σ = some (r, σ')) : Met l zy_Mo_ruleA (za_wy zy_Mo_ruleA zc_Mo_ruleA 6 (some .boolean)) { frames := 3, cells := 0, slots := 0, locals := 76 } (za_Pc D ca n0 [.ref ay0, .int xy1] σ) (za_Qi D ca n0 r σ') 0 0 (za_A n0) := by
  refine za_met (by decide) (Nat.le_of_ble_eq_true rfl) ?_
  intro p e s m below meth c ls hx hb hml hr hlk hts hown hnm hK hI hl
  replace hown : s.vm.findClass zR_Mo = some m.cls := hown
  replace hl : lv_has ls 6 [(0, .ref ay0), (1, .int xy1)] := hl
  have B106 : ∀ (k21 : Nat → Int32 → Int32 → Int32 → za_h → Option (Int32 × za_h)), (∀ (H : Heap) (locs : List Loc) (ls : Array Slot) (a0 : Nat) (x1 : Int32) (x2 : Int32) (x3 : Int32) (σ : za_h), za_I D ca n0 s σ H locs → lv_has ls 6 [(0, .ref a0), (1, .int x1), (2, .int x2), (3, .int x3)] → k21 a0 x1 x2 x3 σ = some (r, σ') → W p l e ({ frames := 3, cells := 0, slots := 0, locals := 76 }) s m ([.ref ay0, .int xy1] : List Value).toArray below meth c H locs 0 0 (MQ below (za_Qi D ca n0 r σ') ([.ref ay0, .int xy1] : List Value).toArray s 0 0 (za_A n0)) (F0 m 21 ls [])) → ∀ (H : Heap) (locs : List Loc) (ls : Array Slot) (a0 : Nat) (x1 : Int32) (x2 : Int32) (x3 : Int32) (σ : za_h), za_I D ca n0 s σ H locs → lv_has ls 6 [(0, .ref a0), (1, .int x1), (2, .int x2), (3, .int x3)] → zf_Mo_ruleA_106 k21 a0 x1 x2 x3 σ = some (r, σ') → W p l e ({ frames := 3, cells := 0, slots := 0, locals := 76 }) s m ([.ref ay0, .int xy1] : List Value).toArray below meth c H locs 0 0 (MQ below (za_Qi D ca n0 r σ') ([.ref ay0, .int xy1] : List Value).toArray s 0 0 (za_A n0)) (F0 m 106 ls []) := by
    intro k21 hk21 H locs ls a0 x1 x2 x3 σ hI hl h
    unfold zf_Mo_ruleA_106 at h
    refine lv_iinc (k := 3) (v := (x3 + nI 1)) (lv' := [(3, .int (x3 + nI 1)), (0, .ref a0), (1, .int x1), (2, .int x2)]) hx hb zd_Mo_ruleA_106 hl rfl rfl (Nat.le_of_ble_eq_true rfl) rfl (fun ls hl => ?_)
    refine lv_goto hx hb (tgt := 21) zd_Mo_ruleA_109 (by decide) ?_
    exact hk21 _ _ ls a0 x1 x2 (x3 + nI 1) σ hI (lv_sub hl [1, 2, 3, 0] rfl) h
  have B105 : ∀ (k21 : Nat → Int32 → Int32 → Int32 → za_h → Option (Int32 × za_h)), (∀ (H : Heap) (locs : List Loc) (ls : Array Slot) (a0 : Nat) (x1 : Int32) (x2 : Int32) (x3 : Int32) (σ : za_h), za_I D ca n0 s σ H locs → lv_has ls 6 [(0, .ref a0), (1, .int x1), (2, .int x2), (3, .int x3)] → k21 a0 x1 x2 x3 σ = some (r, σ') → W p l e ({ frames := 3, cells := 0, slots := 0, locals := 76 }) s m ([.ref ay0, .int xy1] : List Value).toArray below meth c H locs 0 0 (MQ below (za_Qi D ca n0 r σ') ([.ref ay0, .int xy1] : List Value).toArray s 0 0 (za_A n0)) (F0 m 21 ls [])) → ∀ (H : Heap) (locs : List Loc) (ls : Array Slot) (a0 : Nat) (x1 : Int32) (x3 : Int32) (xs0 : Int32) (σ : za_h), za_I D ca n0 s σ H locs → lv_has ls 6 [(0, .ref a0), (1, .int x1), (3, .int x3)] → zf_Mo_ruleA_105 k21 a0 x1 x3 xs0 σ = some (r, σ') → W p l e ({ frames := 3, cells := 0, slots := 0, locals := 76 }) s m ([.ref ay0, .int xy1] : List Value).toArray below meth c H locs 0 0 (MQ below (za_Qi D ca n0 r σ') ([.ref ay0, .int xy1] : List Value).toArray s 0 0 (za_A n0)) (F0 m 105 ls [.int xs0]) := by
    intro k21 hk21 H locs ls a0 x1 x3 xs0 σ hI hl h
    unfold zf_Mo_ruleA_105 at h
    refine lv_istore_n (lv' := [(2, .int xs0), (0, .ref a0), (1, .int x1), (3, .int x3)]) hx hb zd_Mo_ruleA_105 rfl hl (Nat.le_of_ble_eq_true rfl) rfl (fun ls hl => ?_)
    exact B106 _ hk21 _ _ ls a0 x1 xs0 x3 σ hI (lv_sub hl [1, 2, 0, 3] rfl) h
  have B100 : ∀ (k21 : Nat → Int32 → Int32 → Int32 → za_h → Option (Int32 × za_h)), (∀ (H : Heap) (locs : List Loc) (ls : Array Slot) (a0 : Nat) (x1 : Int32) (x2 : Int32) (x3 : Int32) (σ : za_h), za_I D ca n0 s σ H locs → lv_has ls 6 [(0, .ref a0), (1, .int x1), (2, .int x2), (3, .int x3)] → k21 a0 x1 x2 x3 σ = some (r, σ') → W p l e ({ frames := 3, cells := 0, slots := 0, locals := 76 }) s m ([.ref ay0, .int xy1] : List Value).toArray below meth c H locs 0 0 (MQ below (za_Qi D ca n0 r σ') ([.ref ay0, .int xy1] : List Value).toArray s 0 0 (za_A n0)) (F0 m 21 ls [])) → ∀ (H : Heap) (locs : List Loc) (ls : Array Slot) (a0 : Nat) (x1 : Int32) (x3 : Int32) (σ : za_h), za_I D ca n0 s σ H locs → lv_has ls 6 [(0, .ref a0), (1, .int x1), (3, .int x3)] → zf_Mo_ruleA_100 k21 a0 x1 x3 σ = some (r, σ') → W p l e ({ frames := 3, cells := 0, slots := 0, locals := 76 }) s m ([.ref ay0, .int xy1] : List Value).toArray below meth c H locs 0 0 (MQ below (za_Qi D ca n0 r σ') ([.ref ay0, .int xy1] : List Value).toArray s 0 0 (za_A n0)) (F0 m 100 ls []) := by
    intro k21 hk21 H locs ls a0 x1 x3 σ hI hl h
    unfold zf_Mo_ruleA_100 at h
    refine lv_iconst (v := nI 1) hx hb zd_Mo_ruleA_100 (by decide) ?_
    refine lv_goto hx hb (tgt := 105) zd_Mo_ruleA_101 (by decide) ?_
    exact B105 _ hk21 _ _ ls a0 x1 x3 (nI 1) σ hI (lv_sub hl [0, 1, 2] rfl) h
  have B85 : ∀ (k21 : Nat → Int32 → Int32 → Int32 → za_h → Option (Int32 × za_h)), (∀ (H : Heap) (locs : List Loc) (ls : Array Slot) (a0 : Nat) (x1 : Int32) (x2 : Int32) (x3 : Int32) (σ : za_h), za_I D ca n0 s σ H locs → lv_has ls 6 [(0, .ref a0), (1, .int x1), (2, .int x2), (3, .int x3)] → k21 a0 x1 x2 x3 σ = some (r, σ') → W p l e ({ frames := 3, cells := 0, slots := 0, locals := 76 }) s m ([.ref ay0, .int xy1] : List Value).toArray below meth c H locs 0 0 (MQ below (za_Qi D ca n0 r σ') ([.ref ay0, .int xy1] : List Value).toArray s 0 0 (za_A n0)) (F0 m 21 ls [])) → ∀ (H : Heap) (locs : List Loc) (ls : Array Slot) (a0 : Nat) (x1 : Int32) (x2 : Int32) (x3 : Int32) (σ : za_h), za_I D ca n0 s σ H locs → lv_has ls 6 [(0, .ref a0), (1, .int x1), (2, .int x2), (3, .int x3)] → zf_Mo_ruleA_85 k21 a0 x1 x2 x3 σ = some (r, σ') → W p l e ({ frames := 3, cells := 0, slots := 0, locals := 76 }) s m ([.ref ay0, .int xy1] : List Value).toArray below meth c H locs 0 0 (MQ below (za_Qi D ca n0 r σ') ([.ref ay0, .int xy1] : List Value).toArray s 0 0 (za_A n0)) (F0 m 85 ls []) := by
    intro k21 hk21 H locs ls a0 x1 x2 x3 σ hI hl h
    unfold zf_Mo_ruleA_85 at h
    refine lv_aload_n hx hb zd_Mo_ruleA_85 rfl (lv_at hl 0 rfl) ?_
    refine lv_iload_n hx hb zd_Mo_ruleA_86 rfl (lv_at hl 1 rfl) ?_
    refine lv_iconst (v := nI 0) hx hb zd_Mo_ruleA_87 (by decide) ?_
    refine lv_iconst (v := nI 0) hx hb zd_Mo_ruleA_88 (by decide) ?_
    refine lv_iload_n hx hb zd_Mo_ruleA_89 rfl (lv_at hl 3 rfl) ?_
    obtain ⟨_, g1, h⟩ := zb_o h
    obtain ⟨⟨r2, σ3⟩, e4, h⟩ := zb_o h
    refine za_calli (za_runV hx hb hml hown hts hK hI g1 (zm_Mo_put e4) zj_Mo_152 ⟨rfl, rfl⟩ ⟨Nat.le_of_ble_eq_true rfl, Nat.le_of_ble_eq_true rfl⟩ rfl hl.1 rfl (Nat.le_of_ble_eq_true rfl) zd_Mo_ruleA_90 ⟨Nat.le_of_ble_eq_true rfl, Nat.le_of_ble_eq_true rfl⟩) hI (fun H locs hI => ?_)
    refine lv_if_ne hx hb (tgt := 100) zd_Mo_ruleA_93 (by decide) (fun c5 => ?_) (fun c5 => ?_)
    · replace h := zb_f c5 h
      exact B100 _ hk21 _ _ ls a0 x1 x3 σ3 hI (lv_sub hl [0, 1, 3] rfl) h
    · replace h := zb_t c5 h
      refine lv_iload_n hx hb zd_Mo_ruleA_96 rfl (lv_at hl 2 rfl) ?_
      refine lv_if_eq hx hb (tgt := 104) zd_Mo_ruleA_97 (by decide) (fun c6 => ?_) (fun c6 => ?_)
      · replace h := zb_t c6 h
        refine lv_iconst (v := nI 0) hx hb zd_Mo_ruleA_104 (by decide) ?_
        exact B105 _ hk21 _ _ ls a0 x1 x3 (nI 0) σ3 hI (lv_sub hl [0, 1, 3] rfl) h
      · replace h := zb_f c6 h
        exact B100 _ hk21 _ _ ls a0 x1 x3 σ3 hI (lv_sub hl [0, 1, 3] rfl) h
  have B66 : ∀ (k21 : Nat → Int32 → Int32 → Int32 → za_h → Option (Int32 × za_h)), (∀ (H : Heap) (locs : List Loc) (ls : Array Slot) (a0 : Nat) (x1 : Int32) (x2 : Int32) (x3 : Int32) (σ : za_h), za_I D ca n0 s σ H locs → lv_has ls 6 [(0, .ref a0), (1, .int x1), (2, .int x2), (3, .int x3)] → k21 a0 x1 x2 x3 σ = some (r, σ') → W p l e ({ frames := 3, cells := 0, slots := 0, locals := 76 }) s m ([.ref ay0, .int xy1] : List Value).toArray below meth c H locs 0 0 (MQ below (za_Qi D ca n0 r σ') ([.ref ay0, .int xy1] : List Value).toArray s 0 0 (za_A n0)) (F0 m 21 ls [])) → ∀ (H : Heap) (locs : List Loc) (ls : Array Slot) (a0 : Nat) (x1 : Int32) (x2 : Int32) (x3 : Int32) (x4 : Int32) (xs0 : Int32) (σ : za_h), za_I D ca n0 s σ H locs → lv_has ls 6 [(0, .ref a0), (1, .int x1), (2, .int x2), (3, .int x3), (4, .int x4)] → zf_Mo_ruleA_66 k21 a0 x1 x2 x3 x4 xs0 σ = some (r, σ') → W p l e ({ frames := 3, cells := 0, slots := 0, locals := 76 }) s m ([.ref ay0, .int xy1] : List Value).toArray below meth c H locs 0 0 (MQ below (za_Qi D ca n0 r σ') ([.ref ay0, .int xy1] : List Value).toArray s 0 0 (za_A n0)) (F0 m 66 ls [.int xs0]) := by
    intro k21 hk21 H locs ls a0 x1 x2 x3 x4 xs0 σ hI hl h
    unfold zf_Mo_ruleA_66 at h
    refine lv_istore (lv' := [(5, .int xs0), (0, .ref a0), (1, .int x1), (2, .int x2), (3, .int x3), (4, .int x4)]) hx hb zd_Mo_ruleA_66 hl (Nat.le_of_ble_eq_true rfl) rfl (fun ls hl => ?_)
    refine lv_iload hx hb zd_Mo_ruleA_68 (lv_at hl 0 rfl) ?_
    refine lv_if_ne hx hb (tgt := 85) zd_Mo_ruleA_70 (by decide) (fun c1 => ?_) (fun c1 => ?_)
    · replace h := zb_f c1 h
      exact B85 _ hk21 _ _ ls a0 x1 x2 x3 σ hI (lv_sub hl [1, 2, 3, 4] rfl) h
    · replace h := zb_t c1 h
      refine lv_iload hx hb zd_Mo_ruleA_73 (lv_at hl 5 rfl) ?_
      refine lv_aload_n hx hb zd_Mo_ruleA_75 rfl (lv_at hl 1 rfl) ?_
      obtain ⟨b3, e2, h⟩ := zb_o h
      refine za_getr hx hb hts hown hK hI zl_Mo_32 e2 zd_Mo_ruleA_76 ?_
      refine lv_iload_n hx hb zd_Mo_ruleA_79 rfl (lv_at hl 2 rfl) ?_
      obtain ⟨v4, e5, h⟩ := zb_o h
      refine za_iald hx hb hK hI e5 zd_Mo_ruleA_80 ?_
      refine lv_iand hx hb zd_Mo_ruleA_81 ?_
      refine lv_if_eq hx hb (tgt := 106) zd_Mo_ruleA_82 (by decide) (fun c6 => ?_) (fun c6 => ?_)
      · replace h := zb_t c6 h
        exact B106 _ hk21 _ _ ls a0 x1 x2 x3 σ hI (lv_sub hl [1, 2, 3, 4] rfl) h
      · replace h := zb_f c6 h
        exact B85 _ hk21 _ _ ls a0 x1 x2 x3 σ hI (lv_sub hl [1, 2, 3, 4] rfl) h
  have B65 : ∀ (k21 : Nat → Int32 → Int32 → Int32 → za_h → Option (Int32 × za_h)), (∀ (H : Heap) (locs : List Loc) (ls : Array Slot) (a0 : Nat) (x1 : Int32) (x2 : Int32) (x3 : Int32) (σ : za_h), za_I D ca n0 s σ H locs → lv_has ls 6 [(0, .ref a0), (1, .int x1), (2, .int x2), (3, .int x3)] → k21 a0 x1 x2 x3 σ = some (r, σ') → W p l e ({ frames := 3, cells := 0, slots := 0, locals := 76 }) s m ([.ref ay0, .int xy1] : List Value).toArray below meth c H locs 0 0 (MQ below (za_Qi D ca n0 r σ') ([.ref ay0, .int xy1] : List Value).toArray s 0 0 (za_A n0)) (F0 m 21 ls [])) → ∀ (H : Heap) (locs : List Loc) (ls : Array Slot) (a0 : Nat) (x1 : Int32) (x2 : Int32) (x3 : Int32) (x4 : Int32) (σ : za_h), za_I D ca n0 s σ H locs → lv_has ls 6 [(0, .ref a0), (1, .int x1), (2, .int x2), (3, .int x3), (4, .int x4)] → zf_Mo_ruleA_65 k21 a0 x1 x2 x3 x4 σ = some (r, σ') → W p l e ({ frames := 3, cells := 0, slots := 0, locals := 76 }) s m ([.ref ay0, .int xy1] : List Value).toArray below meth c H locs 0 0 (MQ below (za_Qi D ca n0 r σ') ([.ref ay0, .int xy1] : List Value).toArray s 0 0 (za_A n0)) (F0 m 65 ls []) := by
    intro k21 hk21 H locs ls a0 x1 x2 x3 x4 σ hI hl h
    unfold zf_Mo_ruleA_65 at h
    refine lv_iconst (v := nI 0) hx hb zd_Mo_ruleA_65 (by decide) ?_
    exact B66 _ hk21 _ _ ls a0 x1 x2 x3 x4 (nI 0) σ hI (lv_sub hl [0, 1, 2, 3, 4] rfl) h
  have B21 : ∀ n : Nat, ∀ (H : Heap) (locs : List Loc) (ls : Array Slot) (a0 : Nat) (x1 : Int32) (x2 : Int32) (x3 : Int32) (σ : za_h), za_I D ca n0 s σ H locs → lv_has ls 6 [(0, .ref a0), (1, .int x1), (2, .int x2), (3, .int x3)] → zf_Mo_ruleA_21 n a0 x1 x2 x3 σ = some (r, σ') → W p l e ({ frames := 3, cells := 0, slots := 0, locals := 76 }) s m ([.ref ay0, .int xy1] : List Value).toArray below meth c H locs 0 0 (MQ below (za_Qi D ca n0 r σ') ([.ref ay0, .int xy1] : List Value).toArray s 0 0 (za_A n0)) (F0 m 21 ls []) := by
    intro n
    induction n with
    | zero => intro H locs ls a0 x1 x2 x3 σ hI hl h; rw [zf_Mo_ruleA_21] at h; cases h
    | succ n ih =>
      intro H locs ls a0 x1 x2 x3 σ hI hl h
      rw [zf_Mo_ruleA_21] at h
      refine lv_iload_n hx hb zd_Mo_ruleA_21 rfl (lv_at hl 3 rfl) ?_
      refine lv_bipush (v := nI 8) hx hb zd_Mo_ruleA_22 (by decide) ?_
      refine lv_icmp_ge hx hb (tgt := 112) zd_Mo_ruleA_24 (by decide) (fun c1 => ?_) (fun c1 => ?_)
      · replace h := zb_t c1 h
        refine lv_iload_n hx hb zd_Mo_ruleA_112 rfl (lv_at hl 2 rfl) ?_
        obtain ⟨g2, h⟩ := zb_g h
        exact za_zret hx hb hr hlk hI g2 h (Nat.le_of_ble_eq_true rfl) (Nat.le_of_ble_eq_true rfl) zd_Mo_ruleA_113
      · replace h := zb_f c1 h
        refine lv_aload_n hx hb zd_Mo_ruleA_27 rfl (lv_at hl 0 rfl) ?_
        refine lv_iload_n hx hb zd_Mo_ruleA_28 rfl (lv_at hl 1 rfl) ?_
        refine lv_iconst (v := nI 0) hx hb zd_Mo_ruleA_29 (by decide) ?_
        refine lv_iload_n hx hb zd_Mo_ruleA_30 rfl (lv_at hl 3 rfl) ?_
        refine lv_iconst (v := nI 0) hx hb zd_Mo_ruleA_31 (by decide) ?_
        obtain ⟨_, g3, h⟩ := zb_o h
        obtain ⟨⟨r4, σ5⟩, e6, h⟩ := zb_o h
        refine za_calli (za_runV hx hb hml hown hts hK hI g3 (zm_Mo_nodes e6) zj_Mo_139 ⟨rfl, rfl⟩ ⟨Nat.le_of_ble_eq_true rfl, Nat.le_of_ble_eq_true rfl⟩ rfl hl.1 rfl (Nat.le_of_ble_eq_true rfl) zd_Mo_ruleA_32 ⟨Nat.le_of_ble_eq_true rfl, Nat.le_of_ble_eq_true rfl⟩) hI (fun H locs hI => ?_)
        refine lv_istore (lv' := [(4, .int r4), (0, .ref a0), (1, .int x1), (2, .int x2), (3, .int x3)]) hx hb zd_Mo_ruleA_35 hl (Nat.le_of_ble_eq_true rfl) rfl (fun ls hl => ?_)
        refine lv_aload_n hx hb zd_Mo_ruleA_37 rfl (lv_at hl 1 rfl) ?_
        obtain ⟨b8, e7, h⟩ := zb_o h
        refine za_getr hx hb hts hown hK hI zl_Mo_32 e7 zd_Mo_ruleA_38 ?_
        refine lv_iload_n hx hb zd_Mo_ruleA_41 rfl (lv_at hl 2 rfl) ?_
        obtain ⟨v9, e10, h⟩ := zb_o h
        refine za_iald hx hb hK hI e10 zd_Mo_ruleA_42 ?_
        refine lv_iload_n hx hb zd_Mo_ruleA_43 rfl (lv_at hl 2 rfl) ?_
        refine lv_ishr hx hb zd_Mo_ruleA_44 ?_
        refine lv_iconst (v := nI 1) hx hb zd_Mo_ruleA_45 (by decide) ?_
        refine lv_iand hx hb zd_Mo_ruleA_46 ?_
        refine lv_iconst (v := nI 1) hx hb zd_Mo_ruleA_47 (by decide) ?_
        refine lv_icmp_ne hx hb (tgt := 65) zd_Mo_ruleA_48 (by decide) (fun c11 => ?_) (fun c11 => ?_)
        · replace h := zb_f c11 h
          exact B65 _ ih _ _ ls a0 x1 x2 x3 r4 σ5 hI (lv_sub hl [1, 2, 3, 4, 0] rfl) h
        · replace h := zb_t c11 h
          refine lv_aload_n hx hb zd_Mo_ruleA_51 rfl (lv_at hl 1 rfl) ?_
          obtain ⟨b13, e12, h⟩ := zb_o h
          refine za_getr hx hb hts hown hK hI zl_Mo_38 e12 zd_Mo_ruleA_52 ?_
          refine lv_iload_n hx hb zd_Mo_ruleA_55 rfl (lv_at hl 2 rfl) ?_
          obtain ⟨v14, e15, h⟩ := zb_o h
          refine za_iald hx hb hK hI e15 zd_Mo_ruleA_56 ?_
          refine lv_iload_n hx hb zd_Mo_ruleA_57 rfl (lv_at hl 4 rfl) ?_
          refine lv_icmp_ne hx hb (tgt := 65) zd_Mo_ruleA_58 (by decide) (fun c16 => ?_) (fun c16 => ?_)
          · replace h := zb_f c16 h
            exact B65 _ ih _ _ ls a0 x1 x2 x3 r4 σ5 hI (lv_sub hl [1, 2, 3, 4, 0] rfl) h
          · replace h := zb_t c16 h
            refine lv_iconst (v := nI 1) hx hb zd_Mo_ruleA_61 (by decide) ?_
            refine lv_goto hx hb (tgt := 66) zd_Mo_ruleA_62 (by decide) ?_
            exact B66 _ ih _ _ ls a0 x1 x2 x3 r4 (nI 1) σ5 hI (lv_sub hl [1, 2, 3, 4, 0] rfl) h
  unfold zf_Mo_ruleA at h
  refine lv_iconst (v := nI 0) hx hb zd_Mo_ruleA_0 (by decide) ?_
  refine lv_istore_n (lv' := [(2, .int (nI 0)), (0, .ref ay0), (1, .int xy1)]) hx hb zd_Mo_ruleA_1 rfl hl (Nat.le_of_ble_eq_true rfl) rfl (fun ls hl => ?_)
  refine lv_aload_n hx hb zd_Mo_ruleA_2 rfl (lv_at hl 1 rfl) ?_
  obtain ⟨b2, e1, h⟩ := zb_o h
  refine za_getr hx hb hts hown hK hI zl_Mo_41 e1 zd_Mo_ruleA_3 ?_
  refine lv_aload_n hx hb zd_Mo_ruleA_6 rfl (lv_at hl 1 rfl) ?_
  refine lv_iload_n hx hb zd_Mo_ruleA_7 rfl (lv_at hl 2 rfl) ?_
  refine lv_iconst (v := nI 0) hx hb zd_Mo_ruleA_8 (by decide) ?_
  refine lv_iconst (v := nI 2) hx hb zd_Mo_ruleA_9 (by decide) ?_
  obtain ⟨_, g3, h⟩ := zb_o h
  obtain ⟨⟨r4, σ5⟩, e6, h⟩ := zb_o h
  refine za_calli (za_runV hx hb hml hown hts hK hI g3 (zm_Mo_place e6) zj_Mo_121 ⟨rfl, rfl⟩ ⟨Nat.le_of_ble_eq_true rfl, Nat.le_of_ble_eq_true rfl⟩ rfl hl.1 rfl (Nat.le_of_ble_eq_true rfl) zd_Mo_ruleA_10 ⟨Nat.le_of_ble_eq_true rfl, Nat.le_of_ble_eq_true rfl⟩) hI (fun H locs hI => ?_)
  obtain ⟨v7, e8, h⟩ := zb_o h
  refine za_iald hx hb hK hI e8 zd_Mo_ruleA_13 ?_
  refine lv_if_eq hx hb (tgt := 19) zd_Mo_ruleA_14 (by decide) (fun c9 => ?_) (fun c9 => ?_)
  · replace h := zb_t c9 h
    refine lv_iconst (v := nI 1) hx hb zd_Mo_ruleA_19 (by decide) ?_
    refine lv_istore_n (lv' := [(3, .int (nI 1)), (2, .int (nI 0)), (0, .ref ay0), (1, .int xy1)]) hx hb zd_Mo_ruleA_20 rfl hl (Nat.le_of_ble_eq_true rfl) rfl (fun ls hl => ?_)
    exact B21 8 _ _ ls ay0 xy1 (nI 0) (nI 1) σ5 hI (lv_sub hl [2, 3, 1, 0] rfl) h
  · replace h := zb_f c9 h
    refine lv_iconst (v := nI 0) hx hb zd_Mo_ruleA_17 (by decide) ?_
    exact za_zret hx hb hr hlk hI (by decide) h (Nat.le_of_ble_eq_true rfl) (Nat.le_of_ble_eq_true rfl) zd_Mo_ruleA_18

def zf_Mo_accept_60 (k6 : Nat → Int32 → Int32 → Int32 → Int32 → Int32 → za_h → Option (Int32 × za_h)) (a0 : Nat) (x1 : Int32) (x2 : Int32) (x4 : Int32) (x5 : Int32) (x6 : Int32) (σ : za_h) : Option (Int32 × za_h) :=
  k6 a0 x1 x2 x4 x5 (x6 + nI 1) σ

def zf_Mo_accept_58 (k6 : Nat → Int32 → Int32 → Int32 → Int32 → Int32 → za_h → Option (Int32 × za_h)) (a0 : Nat) (x1 : Int32) (x2 : Int32) (x4 : Int32) (x6 : Int32) (xs0 : Int32) (σ : za_h) : Option (Int32 × za_h) :=
  zf_Mo_accept_60 k6 a0 x1 x2 x4 xs0 x6 σ

def zf_Mo_accept_53 (k6 : Nat → Int32 → Int32 → Int32 → Int32 → Int32 → za_h → Option (Int32 × za_h)) (a0 : Nat) (x1 : Int32) (x2 : Int32) (x4 : Int32) (x6 : Int32) (σ : za_h) : Option (Int32 × za_h) :=
  zf_Mo_accept_58 k6 a0 x1 x2 x4 x6 (nI 1) σ

def zf_Mo_accept_6 : Nat → Nat → Int32 → Int32 → Int32 → Int32 → Int32 → za_h → Option (Int32 × za_h)
  | 0, _, _, _, _, _, _, _ => none
  | n + 1, a0, x1, x2, x4, x5, x6, σ =>
  if x4 < x6 then
  (if x5 = 0 ∨ x5 = 1 then some (x5, σ) else none)
  else
  ((zg_c σ a0 10).bind fun _ =>
  (zf_Mo_has a0 x1 x2 (nI 1) x6 σ).bind fun (r4, σ5) =>
  if r4 = 0 then
  ((zg_c σ5 a0 10).bind fun _ =>
  (zf_Mo_mayAccept a0 x1 x2 x6 σ5).bind fun (r9, σ10) =>
  if r9 = 0 then
  (zf_Mo_accept_60 (zf_Mo_accept_6 n) a0 x1 x2 x4 x5 x6 σ10)
  else
  ((zg_c σ10 a0 10).bind fun _ =>
  (zf_Mo_put a0 x1 x2 (nI 1) x6 σ10).bind fun (r14, σ15) =>
  if r14 = 0 then
  (if x5 = 0 then
  (zf_Mo_accept_58 (zf_Mo_accept_6 n) a0 x1 x2 x4 x6 (nI 0) σ15)
  else
  (zf_Mo_accept_53 (zf_Mo_accept_6 n) a0 x1 x2 x4 x6 σ15))
  else
  (zf_Mo_accept_53 (zf_Mo_accept_6 n) a0 x1 x2 x4 x6 σ15)))
  else
  (zf_Mo_accept_60 (zf_Mo_accept_6 n) a0 x1 x2 x4 x5 x6 σ5))

def zf_Mo_accept (ay0 : Nat) (xy1 : Int32) (xy2 : Int32) (xy3 : Int32) (xy4 : Int32) (σ : za_h) : Option (Int32 × za_h) :=
  zf_Mo_accept_6 29 ay0 xy1 xy2 xy4 (nI 0) xy3 σ
set_option maxRecDepth 100000 in
set_option maxHeartbeats 4000000 in
theorem zm_Mo_accept {l : Launch} {D : va_G} {ca : Nat → ClassId} {n0 : Nat} {ay0 : Nat} {xy1 : Int32} {xy2 : Int32} {xy3 : Int32} {xy4 : Int32} {σ σ' : za_h} {r : Int32} (h : zf_Mo_accept ay0 xy1 xy2 xy3 xy4 σ = some (r, σ')) : Met l zy_Mo_accept (za_wy zy_Mo_accept zc_Mo_accept 7 (some .boolean)) { frames := 4, cells := 0, slots := 0, locals := 102 } (za_Pc D ca n0 [.ref ay0, .int xy1, .int xy2, .int xy3, .int xy4] σ) (za_Qi D ca n0 r σ') 0 0 (za_A n0) := by
  refine za_met (by decide) (Nat.le_of_ble_eq_true rfl) ?_
  intro p e s m below meth c ls hx hb hml hr hlk hts hown hnm hK hI hl
  replace hown : s.vm.findClass zR_Mo = some m.cls := hown
  replace hl : lv_has ls 7 [(0, .ref ay0), (1, .int xy1), (2, .int xy2), (3, .int xy3), (4, .int xy4)] := hl
  have B60 : ∀ (k6 : Nat → Int32 → Int32 → Int32 → Int32 → Int32 → za_h → Option (Int32 × za_h)), (∀ (H : Heap) (locs : List Loc) (ls : Array Slot) (a0 : Nat) (x1 : Int32) (x2 : Int32) (x4 : Int32) (x5 : Int32) (x6 : Int32) (σ : za_h), za_I D ca n0 s σ H locs → lv_has ls 7 [(0, .ref a0), (1, .int x1), (2, .int x2), (4, .int x4), (5, .int x5), (6, .int x6)] → k6 a0 x1 x2 x4 x5 x6 σ = some (r, σ') → W p l e ({ frames := 4, cells := 0, slots := 0, locals := 102 }) s m ([.ref ay0, .int xy1, .int xy2, .int xy3, .int xy4] : List Value).toArray below meth c H locs 0 0 (MQ below (za_Qi D ca n0 r σ') ([.ref ay0, .int xy1, .int xy2, .int xy3, .int xy4] : List Value).toArray s 0 0 (za_A n0)) (F0 m 6 ls [])) → ∀ (H : Heap) (locs : List Loc) (ls : Array Slot) (a0 : Nat) (x1 : Int32) (x2 : Int32) (x4 : Int32) (x5 : Int32) (x6 : Int32) (σ : za_h), za_I D ca n0 s σ H locs → lv_has ls 7 [(0, .ref a0), (1, .int x1), (2, .int x2), (4, .int x4), (5, .int x5), (6, .int x6)] → zf_Mo_accept_60 k6 a0 x1 x2 x4 x5 x6 σ = some (r, σ') → W p l e ({ frames := 4, cells := 0, slots := 0, locals := 102 }) s m ([.ref ay0, .int xy1, .int xy2, .int xy3, .int xy4] : List Value).toArray below meth c H locs 0 0 (MQ below (za_Qi D ca n0 r σ') ([.ref ay0, .int xy1, .int xy2, .int xy3, .int xy4] : List Value).toArray s 0 0 (za_A n0)) (F0 m 60 ls []) := by
    intro k6 hk6 H locs ls a0 x1 x2 x4 x5 x6 σ hI hl h
    unfold zf_Mo_accept_60 at h
    refine lv_iinc (k := 5) (v := (x6 + nI 1)) (lv' := [(6, .int (x6 + nI 1)), (0, .ref a0), (1, .int x1), (2, .int x2), (4, .int x4), (5, .int x5)]) hx hb zd_Mo_accept_60 hl rfl rfl (Nat.le_of_ble_eq_true rfl) rfl (fun ls hl => ?_)
    refine lv_goto hx hb (tgt := 6) zd_Mo_accept_63 (by decide) ?_
    exact hk6 _ _ ls a0 x1 x2 x4 x5 (x6 + nI 1) σ hI (lv_sub hl [1, 2, 3, 4, 5, 0] rfl) h
  have B58 : ∀ (k6 : Nat → Int32 → Int32 → Int32 → Int32 → Int32 → za_h → Option (Int32 × za_h)), (∀ (H : Heap) (locs : List Loc) (ls : Array Slot) (a0 : Nat) (x1 : Int32) (x2 : Int32) (x4 : Int32) (x5 : Int32) (x6 : Int32) (σ : za_h), za_I D ca n0 s σ H locs → lv_has ls 7 [(0, .ref a0), (1, .int x1), (2, .int x2), (4, .int x4), (5, .int x5), (6, .int x6)] → k6 a0 x1 x2 x4 x5 x6 σ = some (r, σ') → W p l e ({ frames := 4, cells := 0, slots := 0, locals := 102 }) s m ([.ref ay0, .int xy1, .int xy2, .int xy3, .int xy4] : List Value).toArray below meth c H locs 0 0 (MQ below (za_Qi D ca n0 r σ') ([.ref ay0, .int xy1, .int xy2, .int xy3, .int xy4] : List Value).toArray s 0 0 (za_A n0)) (F0 m 6 ls [])) → ∀ (H : Heap) (locs : List Loc) (ls : Array Slot) (a0 : Nat) (x1 : Int32) (x2 : Int32) (x4 : Int32) (x6 : Int32) (xs0 : Int32) (σ : za_h), za_I D ca n0 s σ H locs → lv_has ls 7 [(0, .ref a0), (1, .int x1), (2, .int x2), (4, .int x4), (6, .int x6)] → zf_Mo_accept_58 k6 a0 x1 x2 x4 x6 xs0 σ = some (r, σ') → W p l e ({ frames := 4, cells := 0, slots := 0, locals := 102 }) s m ([.ref ay0, .int xy1, .int xy2, .int xy3, .int xy4] : List Value).toArray below meth c H locs 0 0 (MQ below (za_Qi D ca n0 r σ') ([.ref ay0, .int xy1, .int xy2, .int xy3, .int xy4] : List Value).toArray s 0 0 (za_A n0)) (F0 m 58 ls [.int xs0]) := by
    intro k6 hk6 H locs ls a0 x1 x2 x4 x6 xs0 σ hI hl h
    unfold zf_Mo_accept_58 at h
    refine lv_istore (lv' := [(5, .int xs0), (0, .ref a0), (1, .int x1), (2, .int x2), (4, .int x4), (6, .int x6)]) hx hb zd_Mo_accept_58 hl (Nat.le_of_ble_eq_true rfl) rfl (fun ls hl => ?_)
    exact B60 _ hk6 _ _ ls a0 x1 x2 x4 xs0 x6 σ hI (lv_sub hl [1, 2, 3, 4, 0, 5] rfl) h
  have B53 : ∀ (k6 : Nat → Int32 → Int32 → Int32 → Int32 → Int32 → za_h → Option (Int32 × za_h)), (∀ (H : Heap) (locs : List Loc) (ls : Array Slot) (a0 : Nat) (x1 : Int32) (x2 : Int32) (x4 : Int32) (x5 : Int32) (x6 : Int32) (σ : za_h), za_I D ca n0 s σ H locs → lv_has ls 7 [(0, .ref a0), (1, .int x1), (2, .int x2), (4, .int x4), (5, .int x5), (6, .int x6)] → k6 a0 x1 x2 x4 x5 x6 σ = some (r, σ') → W p l e ({ frames := 4, cells := 0, slots := 0, locals := 102 }) s m ([.ref ay0, .int xy1, .int xy2, .int xy3, .int xy4] : List Value).toArray below meth c H locs 0 0 (MQ below (za_Qi D ca n0 r σ') ([.ref ay0, .int xy1, .int xy2, .int xy3, .int xy4] : List Value).toArray s 0 0 (za_A n0)) (F0 m 6 ls [])) → ∀ (H : Heap) (locs : List Loc) (ls : Array Slot) (a0 : Nat) (x1 : Int32) (x2 : Int32) (x4 : Int32) (x6 : Int32) (σ : za_h), za_I D ca n0 s σ H locs → lv_has ls 7 [(0, .ref a0), (1, .int x1), (2, .int x2), (4, .int x4), (6, .int x6)] → zf_Mo_accept_53 k6 a0 x1 x2 x4 x6 σ = some (r, σ') → W p l e ({ frames := 4, cells := 0, slots := 0, locals := 102 }) s m ([.ref ay0, .int xy1, .int xy2, .int xy3, .int xy4] : List Value).toArray below meth c H locs 0 0 (MQ below (za_Qi D ca n0 r σ') ([.ref ay0, .int xy1, .int xy2, .int xy3, .int xy4] : List Value).toArray s 0 0 (za_A n0)) (F0 m 53 ls []) := by
    intro k6 hk6 H locs ls a0 x1 x2 x4 x6 σ hI hl h
    unfold zf_Mo_accept_53 at h
    refine lv_iconst (v := nI 1) hx hb zd_Mo_accept_53 (by decide) ?_
    refine lv_goto hx hb (tgt := 58) zd_Mo_accept_54 (by decide) ?_
    exact B58 _ hk6 _ _ ls a0 x1 x2 x4 x6 (nI 1) σ hI (lv_sub hl [0, 1, 2, 3, 4] rfl) h
  have B6 : ∀ n : Nat, ∀ (H : Heap) (locs : List Loc) (ls : Array Slot) (a0 : Nat) (x1 : Int32) (x2 : Int32) (x4 : Int32) (x5 : Int32) (x6 : Int32) (σ : za_h), za_I D ca n0 s σ H locs → lv_has ls 7 [(0, .ref a0), (1, .int x1), (2, .int x2), (4, .int x4), (5, .int x5), (6, .int x6)] → zf_Mo_accept_6 n a0 x1 x2 x4 x5 x6 σ = some (r, σ') → W p l e ({ frames := 4, cells := 0, slots := 0, locals := 102 }) s m ([.ref ay0, .int xy1, .int xy2, .int xy3, .int xy4] : List Value).toArray below meth c H locs 0 0 (MQ below (za_Qi D ca n0 r σ') ([.ref ay0, .int xy1, .int xy2, .int xy3, .int xy4] : List Value).toArray s 0 0 (za_A n0)) (F0 m 6 ls []) := by
    intro n
    induction n with
    | zero => intro H locs ls a0 x1 x2 x4 x5 x6 σ hI hl h; rw [zf_Mo_accept_6] at h; cases h
    | succ n ih =>
      intro H locs ls a0 x1 x2 x4 x5 x6 σ hI hl h
      rw [zf_Mo_accept_6] at h
      refine lv_iload hx hb zd_Mo_accept_6 (lv_at hl 5 rfl) ?_
      refine lv_iload hx hb zd_Mo_accept_8 (lv_at hl 3 rfl) ?_
      refine lv_icmp_gt hx hb (tgt := 66) zd_Mo_accept_10 (by decide) (fun c1 => ?_) (fun c1 => ?_)
      · replace h := zb_t c1 h
        refine lv_iload hx hb zd_Mo_accept_66 (lv_at hl 4 rfl) ?_
        obtain ⟨g2, h⟩ := zb_g h
        exact za_zret hx hb hr hlk hI g2 h (Nat.le_of_ble_eq_true rfl) (Nat.le_of_ble_eq_true rfl) zd_Mo_accept_68
      · replace h := zb_f c1 h
        refine lv_aload_n hx hb zd_Mo_accept_13 rfl (lv_at hl 0 rfl) ?_
        refine lv_iload_n hx hb zd_Mo_accept_14 rfl (lv_at hl 1 rfl) ?_
        refine lv_iload_n hx hb zd_Mo_accept_15 rfl (lv_at hl 2 rfl) ?_
        refine lv_iconst (v := nI 1) hx hb zd_Mo_accept_16 (by decide) ?_
        refine lv_iload hx hb zd_Mo_accept_17 (lv_at hl 5 rfl) ?_
        obtain ⟨_, g3, h⟩ := zb_o h
        obtain ⟨⟨r4, σ5⟩, e6, h⟩ := zb_o h
        refine za_calli (za_runV hx hb hml hown hts hK hI g3 (zm_Mo_has e6) zj_Mo_125 ⟨rfl, rfl⟩ ⟨Nat.le_of_ble_eq_true rfl, Nat.le_of_ble_eq_true rfl⟩ rfl hl.1 rfl (Nat.le_of_ble_eq_true rfl) zd_Mo_accept_19 ⟨Nat.le_of_ble_eq_true rfl, Nat.le_of_ble_eq_true rfl⟩) hI (fun H locs hI => ?_)
        refine lv_if_ne hx hb (tgt := 60) zd_Mo_accept_22 (by decide) (fun c7 => ?_) (fun c7 => ?_)
        · replace h := zb_f c7 h
          exact B60 _ ih _ _ ls a0 x1 x2 x4 x5 x6 σ5 hI (lv_sub hl [0, 1, 2, 3, 4, 5] rfl) h
        · replace h := zb_t c7 h
          refine lv_aload_n hx hb zd_Mo_accept_25 rfl (lv_at hl 0 rfl) ?_
          refine lv_iload_n hx hb zd_Mo_accept_26 rfl (lv_at hl 1 rfl) ?_
          refine lv_iload_n hx hb zd_Mo_accept_27 rfl (lv_at hl 2 rfl) ?_
          refine lv_iload hx hb zd_Mo_accept_28 (lv_at hl 5 rfl) ?_
          obtain ⟨_, g8, h⟩ := zb_o h
          obtain ⟨⟨r9, σ10⟩, e11, h⟩ := zb_o h
          refine za_calli (za_runV hx hb hml hown hts hK hI g8 (zm_Mo_mayAccept e11) zj_Mo_155 ⟨rfl, rfl⟩ ⟨Nat.le_of_ble_eq_true rfl, Nat.le_of_ble_eq_true rfl⟩ rfl hl.1 rfl (Nat.le_of_ble_eq_true rfl) zd_Mo_accept_30 ⟨Nat.le_of_ble_eq_true rfl, Nat.le_of_ble_eq_true rfl⟩) hI (fun H locs hI => ?_)
          refine lv_if_eq hx hb (tgt := 60) zd_Mo_accept_33 (by decide) (fun c12 => ?_) (fun c12 => ?_)
          · replace h := zb_t c12 h
            exact B60 _ ih _ _ ls a0 x1 x2 x4 x5 x6 σ10 hI (lv_sub hl [0, 1, 2, 3, 4, 5] rfl) h
          · replace h := zb_f c12 h
            refine lv_aload_n hx hb zd_Mo_accept_36 rfl (lv_at hl 0 rfl) ?_
            refine lv_iload_n hx hb zd_Mo_accept_37 rfl (lv_at hl 1 rfl) ?_
            refine lv_iload_n hx hb zd_Mo_accept_38 rfl (lv_at hl 2 rfl) ?_
            refine lv_iconst (v := nI 1) hx hb zd_Mo_accept_39 (by decide) ?_
            refine lv_iload hx hb zd_Mo_accept_40 (lv_at hl 5 rfl) ?_
            obtain ⟨_, g13, h⟩ := zb_o h
            obtain ⟨⟨r14, σ15⟩, e16, h⟩ := zb_o h
            refine za_calli (za_runV hx hb hml hown hts hK hI g13 (zm_Mo_put e16) zj_Mo_152 ⟨rfl, rfl⟩ ⟨Nat.le_of_ble_eq_true rfl, Nat.le_of_ble_eq_true rfl⟩ rfl hl.1 rfl (Nat.le_of_ble_eq_true rfl) zd_Mo_accept_42 ⟨Nat.le_of_ble_eq_true rfl, Nat.le_of_ble_eq_true rfl⟩) hI (fun H locs hI => ?_)
            refine lv_if_ne hx hb (tgt := 53) zd_Mo_accept_45 (by decide) (fun c17 => ?_) (fun c17 => ?_)
            · replace h := zb_f c17 h
              exact B53 _ ih _ _ ls a0 x1 x2 x4 x6 σ15 hI (lv_sub hl [0, 1, 2, 3, 5] rfl) h
            · replace h := zb_t c17 h
              refine lv_iload hx hb zd_Mo_accept_48 (lv_at hl 4 rfl) ?_
              refine lv_if_eq hx hb (tgt := 57) zd_Mo_accept_50 (by decide) (fun c18 => ?_) (fun c18 => ?_)
              · replace h := zb_t c18 h
                refine lv_iconst (v := nI 0) hx hb zd_Mo_accept_57 (by decide) ?_
                exact B58 _ ih _ _ ls a0 x1 x2 x4 x6 (nI 0) σ15 hI (lv_sub hl [0, 1, 2, 3, 5] rfl) h
              · replace h := zb_f c18 h
                exact B53 _ ih _ _ ls a0 x1 x2 x4 x6 σ15 hI (lv_sub hl [0, 1, 2, 3, 5] rfl) h
  unfold zf_Mo_accept at h
  refine lv_iconst (v := nI 0) hx hb zd_Mo_accept_0 (by decide) ?_
  refine lv_istore (lv' := [(5, .int (nI 0)), (0, .ref ay0), (1, .int xy1), (2, .int xy2), (3, .int xy3), (4, .int xy4)]) hx hb zd_Mo_accept_1 hl (Nat.le_of_ble_eq_true rfl) rfl (fun ls hl => ?_)
  refine lv_iload_n hx hb zd_Mo_accept_3 rfl (lv_at hl 4 rfl) ?_
  refine lv_istore (lv' := [(6, .int xy3), (5, .int (nI 0)), (0, .ref ay0), (1, .int xy1), (2, .int xy2), (3, .int xy3), (4, .int xy4)]) hx hb zd_Mo_accept_4 hl (Nat.le_of_ble_eq_true rfl) rfl (fun ls hl => ?_)
  exact B6 29 _ _ ls ay0 xy1 xy2 xy4 (nI 0) xy3 σ hI (lv_sub hl [2, 3, 4, 6, 1, 0] rfl) h

def zf_Mo_confirm_60 (k6 : Nat → Int32 → Int32 → Int32 → Int32 → Int32 → za_h → Option (Int32 × za_h)) (a0 : Nat) (x1 : Int32) (x2 : Int32) (x4 : Int32) (x5 : Int32) (x6 : Int32) (σ : za_h) : Option (Int32 × za_h) :=
  k6 a0 x1 x2 x4 x5 (x6 + nI 1) σ

def zf_Mo_confirm_58 (k6 : Nat → Int32 → Int32 → Int32 → Int32 → Int32 → za_h → Option (Int32 × za_h)) (a0 : Nat) (x1 : Int32) (x2 : Int32) (x4 : Int32) (x6 : Int32) (xs0 : Int32) (σ : za_h) : Option (Int32 × za_h) :=
  zf_Mo_confirm_60 k6 a0 x1 x2 x4 xs0 x6 σ

def zf_Mo_confirm_53 (k6 : Nat → Int32 → Int32 → Int32 → Int32 → Int32 → za_h → Option (Int32 × za_h)) (a0 : Nat) (x1 : Int32) (x2 : Int32) (x4 : Int32) (x6 : Int32) (σ : za_h) : Option (Int32 × za_h) :=
  zf_Mo_confirm_58 k6 a0 x1 x2 x4 x6 (nI 1) σ

def zf_Mo_confirm_6 : Nat → Nat → Int32 → Int32 → Int32 → Int32 → Int32 → za_h → Option (Int32 × za_h)
  | 0, _, _, _, _, _, _, _ => none
  | n + 1, a0, x1, x2, x4, x5, x6, σ =>
  if x4 < x6 then
  (if x5 = 0 ∨ x5 = 1 then some (x5, σ) else none)
  else
  ((zg_c σ a0 10).bind fun _ =>
  (zf_Mo_has a0 x1 x2 (nI 2) x6 σ).bind fun (r4, σ5) =>
  if r4 = 0 then
  ((zg_c σ5 a0 10).bind fun _ =>
  (zf_Mo_mayConfirm a0 x1 x2 x6 σ5).bind fun (r9, σ10) =>
  if r9 = 0 then
  (zf_Mo_confirm_60 (zf_Mo_confirm_6 n) a0 x1 x2 x4 x5 x6 σ10)
  else
  ((zg_c σ10 a0 10).bind fun _ =>
  (zf_Mo_put a0 x1 x2 (nI 2) x6 σ10).bind fun (r14, σ15) =>
  if r14 = 0 then
  (if x5 = 0 then
  (zf_Mo_confirm_58 (zf_Mo_confirm_6 n) a0 x1 x2 x4 x6 (nI 0) σ15)
  else
  (zf_Mo_confirm_53 (zf_Mo_confirm_6 n) a0 x1 x2 x4 x6 σ15))
  else
  (zf_Mo_confirm_53 (zf_Mo_confirm_6 n) a0 x1 x2 x4 x6 σ15)))
  else
  (zf_Mo_confirm_60 (zf_Mo_confirm_6 n) a0 x1 x2 x4 x5 x6 σ5))

def zf_Mo_confirm (ay0 : Nat) (xy1 : Int32) (xy2 : Int32) (xy3 : Int32) (xy4 : Int32) (σ : za_h) : Option (Int32 × za_h) :=
  zf_Mo_confirm_6 29 ay0 xy1 xy2 xy4 (nI 0) xy3 σ
set_option maxRecDepth 100000 in
set_option maxHeartbeats 4000000 in
theorem zm_Mo_confirm {l : Launch} {D : va_G} {ca : Nat → ClassId} {n0 : Nat} {ay0 : Nat} {xy1 : Int32} {xy2 : Int32} {xy3 : Int32} {xy4 : Int32} {σ σ' : za_h} {r : Int32} (h : zf_Mo_confirm ay0 xy1 xy2 xy3 xy4 σ = some (r, σ')) : Met l zy_Mo_confirm (za_wy zy_Mo_confirm zc_Mo_confirm 7 (some .boolean)) { frames := 4, cells := 0, slots := 0, locals := 100 } (za_Pc D ca n0 [.ref ay0, .int xy1, .int xy2, .int xy3, .int xy4] σ) (za_Qi D ca n0 r σ') 0 0 (za_A n0) := by
  refine za_met (by decide) (Nat.le_of_ble_eq_true rfl) ?_
  intro p e s m below meth c ls hx hb hml hr hlk hts hown hnm hK hI hl
  replace hown : s.vm.findClass zR_Mo = some m.cls := hown
  replace hl : lv_has ls 7 [(0, .ref ay0), (1, .int xy1), (2, .int xy2), (3, .int xy3), (4, .int xy4)] := hl
  have B60 : ∀ (k6 : Nat → Int32 → Int32 → Int32 → Int32 → Int32 → za_h → Option (Int32 × za_h)), (∀ (H : Heap) (locs : List Loc) (ls : Array Slot) (a0 : Nat) (x1 : Int32) (x2 : Int32) (x4 : Int32) (x5 : Int32) (x6 : Int32) (σ : za_h), za_I D ca n0 s σ H locs → lv_has ls 7 [(0, .ref a0), (1, .int x1), (2, .int x2), (4, .int x4), (5, .int x5), (6, .int x6)] → k6 a0 x1 x2 x4 x5 x6 σ = some (r, σ') → W p l e ({ frames := 4, cells := 0, slots := 0, locals := 100 }) s m ([.ref ay0, .int xy1, .int xy2, .int xy3, .int xy4] : List Value).toArray below meth c H locs 0 0 (MQ below (za_Qi D ca n0 r σ') ([.ref ay0, .int xy1, .int xy2, .int xy3, .int xy4] : List Value).toArray s 0 0 (za_A n0)) (F0 m 6 ls [])) → ∀ (H : Heap) (locs : List Loc) (ls : Array Slot) (a0 : Nat) (x1 : Int32) (x2 : Int32) (x4 : Int32) (x5 : Int32) (x6 : Int32) (σ : za_h), za_I D ca n0 s σ H locs → lv_has ls 7 [(0, .ref a0), (1, .int x1), (2, .int x2), (4, .int x4), (5, .int x5), (6, .int x6)] → zf_Mo_confirm_60 k6 a0 x1 x2 x4 x5 x6 σ = some (r, σ') → W p l e ({ frames := 4, cells := 0, slots := 0, locals := 100 }) s m ([.ref ay0, .int xy1, .int xy2, .int xy3, .int xy4] : List Value).toArray below meth c H locs 0 0 (MQ below (za_Qi D ca n0 r σ') ([.ref ay0, .int xy1, .int xy2, .int xy3, .int xy4] : List Value).toArray s 0 0 (za_A n0)) (F0 m 60 ls []) := by
    intro k6 hk6 H locs ls a0 x1 x2 x4 x5 x6 σ hI hl h
    unfold zf_Mo_confirm_60 at h
    refine lv_iinc (k := 5) (v := (x6 + nI 1)) (lv' := [(6, .int (x6 + nI 1)), (0, .ref a0), (1, .int x1), (2, .int x2), (4, .int x4), (5, .int x5)]) hx hb zd_Mo_confirm_60 hl rfl rfl (Nat.le_of_ble_eq_true rfl) rfl (fun ls hl => ?_)
    refine lv_goto hx hb (tgt := 6) zd_Mo_confirm_63 (by decide) ?_
    exact hk6 _ _ ls a0 x1 x2 x4 x5 (x6 + nI 1) σ hI (lv_sub hl [1, 2, 3, 4, 5, 0] rfl) h
  have B58 : ∀ (k6 : Nat → Int32 → Int32 → Int32 → Int32 → Int32 → za_h → Option (Int32 × za_h)), (∀ (H : Heap) (locs : List Loc) (ls : Array Slot) (a0 : Nat) (x1 : Int32) (x2 : Int32) (x4 : Int32) (x5 : Int32) (x6 : Int32) (σ : za_h), za_I D ca n0 s σ H locs → lv_has ls 7 [(0, .ref a0), (1, .int x1), (2, .int x2), (4, .int x4), (5, .int x5), (6, .int x6)] → k6 a0 x1 x2 x4 x5 x6 σ = some (r, σ') → W p l e ({ frames := 4, cells := 0, slots := 0, locals := 100 }) s m ([.ref ay0, .int xy1, .int xy2, .int xy3, .int xy4] : List Value).toArray below meth c H locs 0 0 (MQ below (za_Qi D ca n0 r σ') ([.ref ay0, .int xy1, .int xy2, .int xy3, .int xy4] : List Value).toArray s 0 0 (za_A n0)) (F0 m 6 ls [])) → ∀ (H : Heap) (locs : List Loc) (ls : Array Slot) (a0 : Nat) (x1 : Int32) (x2 : Int32) (x4 : Int32) (x6 : Int32) (xs0 : Int32) (σ : za_h), za_I D ca n0 s σ H locs → lv_has ls 7 [(0, .ref a0), (1, .int x1), (2, .int x2), (4, .int x4), (6, .int x6)] → zf_Mo_confirm_58 k6 a0 x1 x2 x4 x6 xs0 σ = some (r, σ') → W p l e ({ frames := 4, cells := 0, slots := 0, locals := 100 }) s m ([.ref ay0, .int xy1, .int xy2, .int xy3, .int xy4] : List Value).toArray below meth c H locs 0 0 (MQ below (za_Qi D ca n0 r σ') ([.ref ay0, .int xy1, .int xy2, .int xy3, .int xy4] : List Value).toArray s 0 0 (za_A n0)) (F0 m 58 ls [.int xs0]) := by
    intro k6 hk6 H locs ls a0 x1 x2 x4 x6 xs0 σ hI hl h
    unfold zf_Mo_confirm_58 at h
    refine lv_istore (lv' := [(5, .int xs0), (0, .ref a0), (1, .int x1), (2, .int x2), (4, .int x4), (6, .int x6)]) hx hb zd_Mo_confirm_58 hl (Nat.le_of_ble_eq_true rfl) rfl (fun ls hl => ?_)
    exact B60 _ hk6 _ _ ls a0 x1 x2 x4 xs0 x6 σ hI (lv_sub hl [1, 2, 3, 4, 0, 5] rfl) h
  have B53 : ∀ (k6 : Nat → Int32 → Int32 → Int32 → Int32 → Int32 → za_h → Option (Int32 × za_h)), (∀ (H : Heap) (locs : List Loc) (ls : Array Slot) (a0 : Nat) (x1 : Int32) (x2 : Int32) (x4 : Int32) (x5 : Int32) (x6 : Int32) (σ : za_h), za_I D ca n0 s σ H locs → lv_has ls 7 [(0, .ref a0), (1, .int x1), (2, .int x2), (4, .int x4), (5, .int x5), (6, .int x6)] → k6 a0 x1 x2 x4 x5 x6 σ = some (r, σ') → W p l e ({ frames := 4, cells := 0, slots := 0, locals := 100 }) s m ([.ref ay0, .int xy1, .int xy2, .int xy3, .int xy4] : List Value).toArray below meth c H locs 0 0 (MQ below (za_Qi D ca n0 r σ') ([.ref ay0, .int xy1, .int xy2, .int xy3, .int xy4] : List Value).toArray s 0 0 (za_A n0)) (F0 m 6 ls [])) → ∀ (H : Heap) (locs : List Loc) (ls : Array Slot) (a0 : Nat) (x1 : Int32) (x2 : Int32) (x4 : Int32) (x6 : Int32) (σ : za_h), za_I D ca n0 s σ H locs → lv_has ls 7 [(0, .ref a0), (1, .int x1), (2, .int x2), (4, .int x4), (6, .int x6)] → zf_Mo_confirm_53 k6 a0 x1 x2 x4 x6 σ = some (r, σ') → W p l e ({ frames := 4, cells := 0, slots := 0, locals := 100 }) s m ([.ref ay0, .int xy1, .int xy2, .int xy3, .int xy4] : List Value).toArray below meth c H locs 0 0 (MQ below (za_Qi D ca n0 r σ') ([.ref ay0, .int xy1, .int xy2, .int xy3, .int xy4] : List Value).toArray s 0 0 (za_A n0)) (F0 m 53 ls []) := by
    intro k6 hk6 H locs ls a0 x1 x2 x4 x6 σ hI hl h
    unfold zf_Mo_confirm_53 at h
    refine lv_iconst (v := nI 1) hx hb zd_Mo_confirm_53 (by decide) ?_
    refine lv_goto hx hb (tgt := 58) zd_Mo_confirm_54 (by decide) ?_
    exact B58 _ hk6 _ _ ls a0 x1 x2 x4 x6 (nI 1) σ hI (lv_sub hl [0, 1, 2, 3, 4] rfl) h
  have B6 : ∀ n : Nat, ∀ (H : Heap) (locs : List Loc) (ls : Array Slot) (a0 : Nat) (x1 : Int32) (x2 : Int32) (x4 : Int32) (x5 : Int32) (x6 : Int32) (σ : za_h), za_I D ca n0 s σ H locs → lv_has ls 7 [(0, .ref a0), (1, .int x1), (2, .int x2), (4, .int x4), (5, .int x5), (6, .int x6)] → zf_Mo_confirm_6 n a0 x1 x2 x4 x5 x6 σ = some (r, σ') → W p l e ({ frames := 4, cells := 0, slots := 0, locals := 100 }) s m ([.ref ay0, .int xy1, .int xy2, .int xy3, .int xy4] : List Value).toArray below meth c H locs 0 0 (MQ below (za_Qi D ca n0 r σ') ([.ref ay0, .int xy1, .int xy2, .int xy3, .int xy4] : List Value).toArray s 0 0 (za_A n0)) (F0 m 6 ls []) := by
    intro n
    induction n with
    | zero => intro H locs ls a0 x1 x2 x4 x5 x6 σ hI hl h; rw [zf_Mo_confirm_6] at h; cases h
    | succ n ih =>
      intro H locs ls a0 x1 x2 x4 x5 x6 σ hI hl h
      rw [zf_Mo_confirm_6] at h
      refine lv_iload hx hb zd_Mo_confirm_6 (lv_at hl 5 rfl) ?_
      refine lv_iload hx hb zd_Mo_confirm_8 (lv_at hl 3 rfl) ?_
      refine lv_icmp_gt hx hb (tgt := 66) zd_Mo_confirm_10 (by decide) (fun c1 => ?_) (fun c1 => ?_)
      · replace h := zb_t c1 h
        refine lv_iload hx hb zd_Mo_confirm_66 (lv_at hl 4 rfl) ?_
        obtain ⟨g2, h⟩ := zb_g h
        exact za_zret hx hb hr hlk hI g2 h (Nat.le_of_ble_eq_true rfl) (Nat.le_of_ble_eq_true rfl) zd_Mo_confirm_68
      · replace h := zb_f c1 h
        refine lv_aload_n hx hb zd_Mo_confirm_13 rfl (lv_at hl 0 rfl) ?_
        refine lv_iload_n hx hb zd_Mo_confirm_14 rfl (lv_at hl 1 rfl) ?_
        refine lv_iload_n hx hb zd_Mo_confirm_15 rfl (lv_at hl 2 rfl) ?_
        refine lv_iconst (v := nI 2) hx hb zd_Mo_confirm_16 (by decide) ?_
        refine lv_iload hx hb zd_Mo_confirm_17 (lv_at hl 5 rfl) ?_
        obtain ⟨_, g3, h⟩ := zb_o h
        obtain ⟨⟨r4, σ5⟩, e6, h⟩ := zb_o h
        refine za_calli (za_runV hx hb hml hown hts hK hI g3 (zm_Mo_has e6) zj_Mo_125 ⟨rfl, rfl⟩ ⟨Nat.le_of_ble_eq_true rfl, Nat.le_of_ble_eq_true rfl⟩ rfl hl.1 rfl (Nat.le_of_ble_eq_true rfl) zd_Mo_confirm_19 ⟨Nat.le_of_ble_eq_true rfl, Nat.le_of_ble_eq_true rfl⟩) hI (fun H locs hI => ?_)
        refine lv_if_ne hx hb (tgt := 60) zd_Mo_confirm_22 (by decide) (fun c7 => ?_) (fun c7 => ?_)
        · replace h := zb_f c7 h
          exact B60 _ ih _ _ ls a0 x1 x2 x4 x5 x6 σ5 hI (lv_sub hl [0, 1, 2, 3, 4, 5] rfl) h
        · replace h := zb_t c7 h
          refine lv_aload_n hx hb zd_Mo_confirm_25 rfl (lv_at hl 0 rfl) ?_
          refine lv_iload_n hx hb zd_Mo_confirm_26 rfl (lv_at hl 1 rfl) ?_
          refine lv_iload_n hx hb zd_Mo_confirm_27 rfl (lv_at hl 2 rfl) ?_
          refine lv_iload hx hb zd_Mo_confirm_28 (lv_at hl 5 rfl) ?_
          obtain ⟨_, g8, h⟩ := zb_o h
          obtain ⟨⟨r9, σ10⟩, e11, h⟩ := zb_o h
          refine za_calli (za_runV hx hb hml hown hts hK hI g8 (zm_Mo_mayConfirm e11) zj_Mo_158 ⟨rfl, rfl⟩ ⟨Nat.le_of_ble_eq_true rfl, Nat.le_of_ble_eq_true rfl⟩ rfl hl.1 rfl (Nat.le_of_ble_eq_true rfl) zd_Mo_confirm_30 ⟨Nat.le_of_ble_eq_true rfl, Nat.le_of_ble_eq_true rfl⟩) hI (fun H locs hI => ?_)
          refine lv_if_eq hx hb (tgt := 60) zd_Mo_confirm_33 (by decide) (fun c12 => ?_) (fun c12 => ?_)
          · replace h := zb_t c12 h
            exact B60 _ ih _ _ ls a0 x1 x2 x4 x5 x6 σ10 hI (lv_sub hl [0, 1, 2, 3, 4, 5] rfl) h
          · replace h := zb_f c12 h
            refine lv_aload_n hx hb zd_Mo_confirm_36 rfl (lv_at hl 0 rfl) ?_
            refine lv_iload_n hx hb zd_Mo_confirm_37 rfl (lv_at hl 1 rfl) ?_
            refine lv_iload_n hx hb zd_Mo_confirm_38 rfl (lv_at hl 2 rfl) ?_
            refine lv_iconst (v := nI 2) hx hb zd_Mo_confirm_39 (by decide) ?_
            refine lv_iload hx hb zd_Mo_confirm_40 (lv_at hl 5 rfl) ?_
            obtain ⟨_, g13, h⟩ := zb_o h
            obtain ⟨⟨r14, σ15⟩, e16, h⟩ := zb_o h
            refine za_calli (za_runV hx hb hml hown hts hK hI g13 (zm_Mo_put e16) zj_Mo_152 ⟨rfl, rfl⟩ ⟨Nat.le_of_ble_eq_true rfl, Nat.le_of_ble_eq_true rfl⟩ rfl hl.1 rfl (Nat.le_of_ble_eq_true rfl) zd_Mo_confirm_42 ⟨Nat.le_of_ble_eq_true rfl, Nat.le_of_ble_eq_true rfl⟩) hI (fun H locs hI => ?_)
            refine lv_if_ne hx hb (tgt := 53) zd_Mo_confirm_45 (by decide) (fun c17 => ?_) (fun c17 => ?_)
            · replace h := zb_f c17 h
              exact B53 _ ih _ _ ls a0 x1 x2 x4 x6 σ15 hI (lv_sub hl [0, 1, 2, 3, 5] rfl) h
            · replace h := zb_t c17 h
              refine lv_iload hx hb zd_Mo_confirm_48 (lv_at hl 4 rfl) ?_
              refine lv_if_eq hx hb (tgt := 57) zd_Mo_confirm_50 (by decide) (fun c18 => ?_) (fun c18 => ?_)
              · replace h := zb_t c18 h
                refine lv_iconst (v := nI 0) hx hb zd_Mo_confirm_57 (by decide) ?_
                exact B58 _ ih _ _ ls a0 x1 x2 x4 x6 (nI 0) σ15 hI (lv_sub hl [0, 1, 2, 3, 5] rfl) h
              · replace h := zb_f c18 h
                exact B53 _ ih _ _ ls a0 x1 x2 x4 x6 σ15 hI (lv_sub hl [0, 1, 2, 3, 5] rfl) h
  unfold zf_Mo_confirm at h
  refine lv_iconst (v := nI 0) hx hb zd_Mo_confirm_0 (by decide) ?_
  refine lv_istore (lv' := [(5, .int (nI 0)), (0, .ref ay0), (1, .int xy1), (2, .int xy2), (3, .int xy3), (4, .int xy4)]) hx hb zd_Mo_confirm_1 hl (Nat.le_of_ble_eq_true rfl) rfl (fun ls hl => ?_)
  refine lv_iload_n hx hb zd_Mo_confirm_3 rfl (lv_at hl 4 rfl) ?_
  refine lv_istore (lv' := [(6, .int xy3), (5, .int (nI 0)), (0, .ref ay0), (1, .int xy1), (2, .int xy2), (3, .int xy3), (4, .int xy4)]) hx hb zd_Mo_confirm_4 hl (Nat.le_of_ble_eq_true rfl) rfl (fun ls hl => ?_)
  exact B6 29 _ _ ls ay0 xy1 xy2 xy4 (nI 0) xy3 σ hI (lv_sub hl [2, 3, 4, 6, 1, 0] rfl) h

def zf_Mo_ruleD_17  (σ : za_h) : Option (Int32 × za_h) :=
  some ((nI 0), σ)

def zf_Mo_ruleD (ay0 : Nat) (xy1 : Int32) (σ : za_h) : Option (Int32 × za_h) :=
  (zg_r σ ay0 10 10).bind fun b2 =>
  (za_ld σ b2 0 xy1).bind fun v3 =>
  if v3 = 0 then
  ((zg_c σ ay0 10).bind fun _ =>
  (zf_Mo_composite ay0 xy1 σ).bind fun (r7, σ8) =>
  if r7 = 0 then
  (zf_Mo_ruleD_17 σ8)
  else
  ((zg_r σ8 ay0 10 10).bind fun b12 =>
  (za_st σ8 b12 0 xy1 (nI 1)).bind fun σ13 =>
  (zg_c σ13 ay0 10).bind fun _ =>
  (zf_Mo_votePrepare ay0 xy1 σ13).bind fun (r16, σ17) =>
  some ((nI 1), σ17)))
  else
  (zf_Mo_ruleD_17 σ)
set_option maxRecDepth 100000 in
set_option maxHeartbeats 4000000 in
theorem zm_Mo_ruleD {l : Launch} {D : va_G} {ca : Nat → ClassId} {n0 : Nat} {ay0 : Nat} {xy1 : Int32} {σ σ' : za_h} {r : Int32} (h : zf_Mo_ruleD ay0 xy1 σ = some (r, σ')) : Met l zy_Mo_ruleD (za_wy zy_Mo_ruleD zc_Mo_ruleD 2 (some .boolean)) { frames := 5, cells := 0, slots := 0, locals := 114 } (za_Pc D ca n0 [.ref ay0, .int xy1] σ) (za_Qi D ca n0 r σ') 0 0 (za_A n0) := by
  refine za_met (by decide) (Nat.le_of_ble_eq_true rfl) ?_
  intro p e s m below meth c ls hx hb hml hr hlk hts hown hnm hK hI hl
  replace hown : s.vm.findClass zR_Mo = some m.cls := hown
  replace hl : lv_has ls 2 [(0, .ref ay0), (1, .int xy1)] := hl
  have B17 : ∀ (H : Heap) (locs : List Loc) (ls : Array Slot) (σ : za_h), za_I D ca n0 s σ H locs → lv_has ls 2 [] → zf_Mo_ruleD_17 σ = some (r, σ') → W p l e ({ frames := 5, cells := 0, slots := 0, locals := 114 }) s m ([.ref ay0, .int xy1] : List Value).toArray below meth c H locs 0 0 (MQ below (za_Qi D ca n0 r σ') ([.ref ay0, .int xy1] : List Value).toArray s 0 0 (za_A n0)) (F0 m 17 ls []) := by
    intro H locs ls σ hI hl h
    unfold zf_Mo_ruleD_17 at h
    refine lv_iconst (v := nI 0) hx hb zd_Mo_ruleD_17 (by decide) ?_
    exact za_zret hx hb hr hlk hI (by decide) h (Nat.le_of_ble_eq_true rfl) (Nat.le_of_ble_eq_true rfl) zd_Mo_ruleD_18
  unfold zf_Mo_ruleD at h
  refine lv_aload_n hx hb zd_Mo_ruleD_0 rfl (lv_at hl 0 rfl) ?_
  obtain ⟨b2, e1, h⟩ := zb_o h
  refine za_getr hx hb hts hown hK hI zl_Mo_35 e1 zd_Mo_ruleD_1 ?_
  refine lv_iload_n hx hb zd_Mo_ruleD_4 rfl (lv_at hl 1 rfl) ?_
  obtain ⟨v3, e4, h⟩ := zb_o h
  refine za_iald hx hb hK hI e4 zd_Mo_ruleD_5 ?_
  refine lv_if_ne hx hb (tgt := 17) zd_Mo_ruleD_6 (by decide) (fun c5 => ?_) (fun c5 => ?_)
  · replace h := zb_f c5 h
    exact B17 _ _ ls σ hI (lv_sub hl [] rfl) h
  · replace h := zb_t c5 h
    refine lv_aload_n hx hb zd_Mo_ruleD_9 rfl (lv_at hl 0 rfl) ?_
    refine lv_iload_n hx hb zd_Mo_ruleD_10 rfl (lv_at hl 1 rfl) ?_
    obtain ⟨_, g6, h⟩ := zb_o h
    obtain ⟨⟨r7, σ8⟩, e9, h⟩ := zb_o h
    refine za_calli (za_runV hx hb hml hown hts hK hI g6 (zm_Mo_composite e9) zj_Mo_146 ⟨rfl, rfl⟩ ⟨Nat.le_of_ble_eq_true rfl, Nat.le_of_ble_eq_true rfl⟩ rfl hl.1 rfl (Nat.le_of_ble_eq_true rfl) zd_Mo_ruleD_11 ⟨Nat.le_of_ble_eq_true rfl, Nat.le_of_ble_eq_true rfl⟩) hI (fun H locs hI => ?_)
    refine lv_if_ne hx hb (tgt := 19) zd_Mo_ruleD_14 (by decide) (fun c10 => ?_) (fun c10 => ?_)
    · replace h := zb_f c10 h
      refine lv_aload_n hx hb zd_Mo_ruleD_19 rfl (lv_at hl 0 rfl) ?_
      obtain ⟨b12, e11, h⟩ := zb_o h
      refine za_getr hx hb hts hown hK hI zl_Mo_35 e11 zd_Mo_ruleD_20 ?_
      refine lv_iload_n hx hb zd_Mo_ruleD_23 rfl (lv_at hl 1 rfl) ?_
      refine lv_iconst (v := nI 1) hx hb zd_Mo_ruleD_24 (by decide) ?_
      obtain ⟨σ13, e14, h⟩ := zb_o h
      refine za_iast hx hb hK hI e14 zd_Mo_ruleD_25 (fun H locs hI => ?_)
      refine lv_aload_n hx hb zd_Mo_ruleD_26 rfl (lv_at hl 0 rfl) ?_
      refine lv_iload_n hx hb zd_Mo_ruleD_27 rfl (lv_at hl 1 rfl) ?_
      obtain ⟨_, g15, h⟩ := zb_o h
      obtain ⟨⟨r16, σ17⟩, e18, h⟩ := zb_o h
      refine za_calli (za_runV hx hb hml hown hts hK hI g15 (zm_Mo_votePrepare e18) zj_Mo_161 ⟨rfl, rfl⟩ ⟨Nat.le_of_ble_eq_true rfl, Nat.le_of_ble_eq_true rfl⟩ rfl hl.1 rfl (Nat.le_of_ble_eq_true rfl) zd_Mo_ruleD_28 ⟨Nat.le_of_ble_eq_true rfl, Nat.le_of_ble_eq_true rfl⟩) hI (fun H locs hI => ?_)
      refine lv_pop hx hb zd_Mo_ruleD_31 rfl ?_
      refine lv_iconst (v := nI 1) hx hb zd_Mo_ruleD_32 (by decide) ?_
      exact za_zret hx hb hr hlk hI (by decide) h (Nat.le_of_ble_eq_true rfl) (Nat.le_of_ble_eq_true rfl) zd_Mo_ruleD_33
    · replace h := zb_t c10 h
      exact B17 _ _ ls σ8 hI (lv_sub hl [] rfl) h

def zf_Mo_ruleG_78 (k4 : Nat → Int32 → Int32 → Int32 → za_h → Option (Int32 × za_h)) (a0 : Nat) (x1 : Int32) (x2 : Int32) (x3 : Int32) (σ : za_h) : Option (Int32 × za_h) :=
  k4 a0 x1 x2 (x3 + nI 1) σ

def zf_Mo_ruleG_77 (k4 : Nat → Int32 → Int32 → Int32 → za_h → Option (Int32 × za_h)) (a0 : Nat) (x1 : Int32) (x3 : Int32) (xs0 : Int32) (σ : za_h) : Option (Int32 × za_h) :=
  zf_Mo_ruleG_78 k4 a0 x1 xs0 x3 σ

def zf_Mo_ruleG_72 (k4 : Nat → Int32 → Int32 → Int32 → za_h → Option (Int32 × za_h)) (a0 : Nat) (x1 : Int32) (x3 : Int32) (σ : za_h) : Option (Int32 × za_h) :=
  zf_Mo_ruleG_77 k4 a0 x1 x3 (nI 1) σ

def zf_Mo_ruleG_39 (k4 : Nat → Int32 → Int32 → Int32 → za_h → Option (Int32 × za_h)) (a0 : Nat) (x1 : Int32) (x2 : Int32) (x3 : Int32) (xs0 : Int32) (σ : za_h) : Option (Int32 × za_h) :=
  if xs0 = 0 then
  (zf_Mo_ruleG_78 k4 a0 x1 x2 x3 σ)
  else
  ((zg_c σ a0 10).bind fun _ =>
  (zf_Mo_has a0 x1 (nI 1) (nI 2) x3 σ).bind fun (r3, σ4) =>
  if r3 = 0 then
  (zf_Mo_ruleG_78 k4 a0 x1 x2 x3 σ4)
  else
  ((zg_c σ4 a0 10).bind fun _ =>
  (zf_Mo_put a0 x1 (nI 2) (nI 0) x3 σ4).bind fun (r8, σ9) =>
  if r8 = 0 then
  (if x2 = 0 then
  (zf_Mo_ruleG_77 k4 a0 x1 x3 (nI 0) σ9)
  else
  (zf_Mo_ruleG_72 k4 a0 x1 x3 σ9))
  else
  (zf_Mo_ruleG_72 k4 a0 x1 x3 σ9)))

def zf_Mo_ruleG_38 (k4 : Nat → Int32 → Int32 → Int32 → za_h → Option (Int32 × za_h)) (a0 : Nat) (x1 : Int32) (x2 : Int32) (x3 : Int32) (σ : za_h) : Option (Int32 × za_h) :=
  zf_Mo_ruleG_39 k4 a0 x1 x2 x3 (nI 0) σ

def zf_Mo_ruleG_4 : Nat → Nat → Int32 → Int32 → Int32 → za_h → Option (Int32 × za_h)
  | 0, _, _, _, _, _ => none
  | n + 1, a0, x1, x2, x3, σ =>
  if (nI 28) ≤ x3 then
  (if x2 = 0 ∨ x2 = 1 then some (x2, σ) else none)
  else
  ((zg_c σ a0 10).bind fun _ =>
  (zf_Mo_clash a0 x1 (nI 1) (nI 0) x3 (nI 1) σ).bind fun (r4, σ5) =>
  if r4 = 0 then
  ((zg_c σ5 a0 10).bind fun _ =>
  (zf_Mo_clash a0 x1 (nI 1) (nI 1) x3 (nI 1) σ5).bind fun (r9, σ10) =>
  if r9 = 0 then
  (zf_Mo_ruleG_39 (zf_Mo_ruleG_4 n) a0 x1 x2 x3 (nI 1) σ10)
  else
  (zf_Mo_ruleG_38 (zf_Mo_ruleG_4 n) a0 x1 x2 x3 σ10))
  else
  (zf_Mo_ruleG_38 (zf_Mo_ruleG_4 n) a0 x1 x2 x3 σ5))

def zf_Mo_ruleG (ay0 : Nat) (xy1 : Int32) (σ : za_h) : Option (Int32 × za_h) :=
  zf_Mo_ruleG_4 29 ay0 xy1 (nI 0) (nI 0) σ
set_option maxRecDepth 100000 in
set_option maxHeartbeats 4000000 in
theorem zm_Mo_ruleG {l : Launch} {D : va_G} {ca : Nat → ClassId} {n0 : Nat} {ay0 : Nat} {xy1 : Int32} {σ σ' : za_h} {r : Int32} (h : zf_Mo_ruleG ay0 xy1 σ = some (r, σ')) : Met l zy_Mo_ruleG (za_wy zy_Mo_ruleG zc_Mo_ruleG 5 (some .boolean)) { frames := 3, cells := 0, slots := 0, locals := 74 } (za_Pc D ca n0 [.ref ay0, .int xy1] σ) (za_Qi D ca n0 r σ') 0 0 (za_A n0) := by
  refine za_met (by decide) (Nat.le_of_ble_eq_true rfl) ?_
  intro p e s m below meth c ls hx hb hml hr hlk hts hown hnm hK hI hl
  replace hown : s.vm.findClass zR_Mo = some m.cls := hown
  replace hl : lv_has ls 5 [(0, .ref ay0), (1, .int xy1)] := hl
  have B78 : ∀ (k4 : Nat → Int32 → Int32 → Int32 → za_h → Option (Int32 × za_h)), (∀ (H : Heap) (locs : List Loc) (ls : Array Slot) (a0 : Nat) (x1 : Int32) (x2 : Int32) (x3 : Int32) (σ : za_h), za_I D ca n0 s σ H locs → lv_has ls 5 [(0, .ref a0), (1, .int x1), (2, .int x2), (3, .int x3)] → k4 a0 x1 x2 x3 σ = some (r, σ') → W p l e ({ frames := 3, cells := 0, slots := 0, locals := 74 }) s m ([.ref ay0, .int xy1] : List Value).toArray below meth c H locs 0 0 (MQ below (za_Qi D ca n0 r σ') ([.ref ay0, .int xy1] : List Value).toArray s 0 0 (za_A n0)) (F0 m 4 ls [])) → ∀ (H : Heap) (locs : List Loc) (ls : Array Slot) (a0 : Nat) (x1 : Int32) (x2 : Int32) (x3 : Int32) (σ : za_h), za_I D ca n0 s σ H locs → lv_has ls 5 [(0, .ref a0), (1, .int x1), (2, .int x2), (3, .int x3)] → zf_Mo_ruleG_78 k4 a0 x1 x2 x3 σ = some (r, σ') → W p l e ({ frames := 3, cells := 0, slots := 0, locals := 74 }) s m ([.ref ay0, .int xy1] : List Value).toArray below meth c H locs 0 0 (MQ below (za_Qi D ca n0 r σ') ([.ref ay0, .int xy1] : List Value).toArray s 0 0 (za_A n0)) (F0 m 78 ls []) := by
    intro k4 hk4 H locs ls a0 x1 x2 x3 σ hI hl h
    unfold zf_Mo_ruleG_78 at h
    refine lv_iinc (k := 3) (v := (x3 + nI 1)) (lv' := [(3, .int (x3 + nI 1)), (0, .ref a0), (1, .int x1), (2, .int x2)]) hx hb zd_Mo_ruleG_78 hl rfl rfl (Nat.le_of_ble_eq_true rfl) rfl (fun ls hl => ?_)
    refine lv_goto hx hb (tgt := 4) zd_Mo_ruleG_81 (by decide) ?_
    exact hk4 _ _ ls a0 x1 x2 (x3 + nI 1) σ hI (lv_sub hl [1, 2, 3, 0] rfl) h
  have B77 : ∀ (k4 : Nat → Int32 → Int32 → Int32 → za_h → Option (Int32 × za_h)), (∀ (H : Heap) (locs : List Loc) (ls : Array Slot) (a0 : Nat) (x1 : Int32) (x2 : Int32) (x3 : Int32) (σ : za_h), za_I D ca n0 s σ H locs → lv_has ls 5 [(0, .ref a0), (1, .int x1), (2, .int x2), (3, .int x3)] → k4 a0 x1 x2 x3 σ = some (r, σ') → W p l e ({ frames := 3, cells := 0, slots := 0, locals := 74 }) s m ([.ref ay0, .int xy1] : List Value).toArray below meth c H locs 0 0 (MQ below (za_Qi D ca n0 r σ') ([.ref ay0, .int xy1] : List Value).toArray s 0 0 (za_A n0)) (F0 m 4 ls [])) → ∀ (H : Heap) (locs : List Loc) (ls : Array Slot) (a0 : Nat) (x1 : Int32) (x3 : Int32) (xs0 : Int32) (σ : za_h), za_I D ca n0 s σ H locs → lv_has ls 5 [(0, .ref a0), (1, .int x1), (3, .int x3)] → zf_Mo_ruleG_77 k4 a0 x1 x3 xs0 σ = some (r, σ') → W p l e ({ frames := 3, cells := 0, slots := 0, locals := 74 }) s m ([.ref ay0, .int xy1] : List Value).toArray below meth c H locs 0 0 (MQ below (za_Qi D ca n0 r σ') ([.ref ay0, .int xy1] : List Value).toArray s 0 0 (za_A n0)) (F0 m 77 ls [.int xs0]) := by
    intro k4 hk4 H locs ls a0 x1 x3 xs0 σ hI hl h
    unfold zf_Mo_ruleG_77 at h
    refine lv_istore_n (lv' := [(2, .int xs0), (0, .ref a0), (1, .int x1), (3, .int x3)]) hx hb zd_Mo_ruleG_77 rfl hl (Nat.le_of_ble_eq_true rfl) rfl (fun ls hl => ?_)
    exact B78 _ hk4 _ _ ls a0 x1 xs0 x3 σ hI (lv_sub hl [1, 2, 0, 3] rfl) h
  have B72 : ∀ (k4 : Nat → Int32 → Int32 → Int32 → za_h → Option (Int32 × za_h)), (∀ (H : Heap) (locs : List Loc) (ls : Array Slot) (a0 : Nat) (x1 : Int32) (x2 : Int32) (x3 : Int32) (σ : za_h), za_I D ca n0 s σ H locs → lv_has ls 5 [(0, .ref a0), (1, .int x1), (2, .int x2), (3, .int x3)] → k4 a0 x1 x2 x3 σ = some (r, σ') → W p l e ({ frames := 3, cells := 0, slots := 0, locals := 74 }) s m ([.ref ay0, .int xy1] : List Value).toArray below meth c H locs 0 0 (MQ below (za_Qi D ca n0 r σ') ([.ref ay0, .int xy1] : List Value).toArray s 0 0 (za_A n0)) (F0 m 4 ls [])) → ∀ (H : Heap) (locs : List Loc) (ls : Array Slot) (a0 : Nat) (x1 : Int32) (x3 : Int32) (σ : za_h), za_I D ca n0 s σ H locs → lv_has ls 5 [(0, .ref a0), (1, .int x1), (3, .int x3)] → zf_Mo_ruleG_72 k4 a0 x1 x3 σ = some (r, σ') → W p l e ({ frames := 3, cells := 0, slots := 0, locals := 74 }) s m ([.ref ay0, .int xy1] : List Value).toArray below meth c H locs 0 0 (MQ below (za_Qi D ca n0 r σ') ([.ref ay0, .int xy1] : List Value).toArray s 0 0 (za_A n0)) (F0 m 72 ls []) := by
    intro k4 hk4 H locs ls a0 x1 x3 σ hI hl h
    unfold zf_Mo_ruleG_72 at h
    refine lv_iconst (v := nI 1) hx hb zd_Mo_ruleG_72 (by decide) ?_
    refine lv_goto hx hb (tgt := 77) zd_Mo_ruleG_73 (by decide) ?_
    exact B77 _ hk4 _ _ ls a0 x1 x3 (nI 1) σ hI (lv_sub hl [0, 1, 2] rfl) h
  have B39 : ∀ (k4 : Nat → Int32 → Int32 → Int32 → za_h → Option (Int32 × za_h)), (∀ (H : Heap) (locs : List Loc) (ls : Array Slot) (a0 : Nat) (x1 : Int32) (x2 : Int32) (x3 : Int32) (σ : za_h), za_I D ca n0 s σ H locs → lv_has ls 5 [(0, .ref a0), (1, .int x1), (2, .int x2), (3, .int x3)] → k4 a0 x1 x2 x3 σ = some (r, σ') → W p l e ({ frames := 3, cells := 0, slots := 0, locals := 74 }) s m ([.ref ay0, .int xy1] : List Value).toArray below meth c H locs 0 0 (MQ below (za_Qi D ca n0 r σ') ([.ref ay0, .int xy1] : List Value).toArray s 0 0 (za_A n0)) (F0 m 4 ls [])) → ∀ (H : Heap) (locs : List Loc) (ls : Array Slot) (a0 : Nat) (x1 : Int32) (x2 : Int32) (x3 : Int32) (xs0 : Int32) (σ : za_h), za_I D ca n0 s σ H locs → lv_has ls 5 [(0, .ref a0), (1, .int x1), (2, .int x2), (3, .int x3)] → zf_Mo_ruleG_39 k4 a0 x1 x2 x3 xs0 σ = some (r, σ') → W p l e ({ frames := 3, cells := 0, slots := 0, locals := 74 }) s m ([.ref ay0, .int xy1] : List Value).toArray below meth c H locs 0 0 (MQ below (za_Qi D ca n0 r σ') ([.ref ay0, .int xy1] : List Value).toArray s 0 0 (za_A n0)) (F0 m 39 ls [.int xs0]) := by
    intro k4 hk4 H locs ls a0 x1 x2 x3 xs0 σ hI hl h
    unfold zf_Mo_ruleG_39 at h
    refine lv_istore (lv' := [(4, .int xs0), (0, .ref a0), (1, .int x1), (2, .int x2), (3, .int x3)]) hx hb zd_Mo_ruleG_39 hl (Nat.le_of_ble_eq_true rfl) rfl (fun ls hl => ?_)
    refine lv_iload hx hb zd_Mo_ruleG_41 (lv_at hl 0 rfl) ?_
    refine lv_if_eq hx hb (tgt := 78) zd_Mo_ruleG_43 (by decide) (fun c1 => ?_) (fun c1 => ?_)
    · replace h := zb_t c1 h
      exact B78 _ hk4 _ _ ls a0 x1 x2 x3 σ hI (lv_sub hl [1, 2, 3, 4] rfl) h
    · replace h := zb_f c1 h
      refine lv_aload_n hx hb zd_Mo_ruleG_46 rfl (lv_at hl 1 rfl) ?_
      refine lv_iload_n hx hb zd_Mo_ruleG_47 rfl (lv_at hl 2 rfl) ?_
      refine lv_iconst (v := nI 1) hx hb zd_Mo_ruleG_48 (by decide) ?_
      refine lv_iconst (v := nI 2) hx hb zd_Mo_ruleG_49 (by decide) ?_
      refine lv_iload_n hx hb zd_Mo_ruleG_50 rfl (lv_at hl 4 rfl) ?_
      obtain ⟨_, g2, h⟩ := zb_o h
      obtain ⟨⟨r3, σ4⟩, e5, h⟩ := zb_o h
      refine za_calli (za_runV hx hb hml hown hts hK hI g2 (zm_Mo_has e5) zj_Mo_125 ⟨rfl, rfl⟩ ⟨Nat.le_of_ble_eq_true rfl, Nat.le_of_ble_eq_true rfl⟩ rfl hl.1 rfl (Nat.le_of_ble_eq_true rfl) zd_Mo_ruleG_51 ⟨Nat.le_of_ble_eq_true rfl, Nat.le_of_ble_eq_true rfl⟩) hI (fun H locs hI => ?_)
      refine lv_if_eq hx hb (tgt := 78) zd_Mo_ruleG_54 (by decide) (fun c6 => ?_) (fun c6 => ?_)
      · replace h := zb_t c6 h
        exact B78 _ hk4 _ _ ls a0 x1 x2 x3 σ4 hI (lv_sub hl [1, 2, 3, 4] rfl) h
      · replace h := zb_f c6 h
        refine lv_aload_n hx hb zd_Mo_ruleG_57 rfl (lv_at hl 1 rfl) ?_
        refine lv_iload_n hx hb zd_Mo_ruleG_58 rfl (lv_at hl 2 rfl) ?_
        refine lv_iconst (v := nI 2) hx hb zd_Mo_ruleG_59 (by decide) ?_
        refine lv_iconst (v := nI 0) hx hb zd_Mo_ruleG_60 (by decide) ?_
        refine lv_iload_n hx hb zd_Mo_ruleG_61 rfl (lv_at hl 4 rfl) ?_
        obtain ⟨_, g7, h⟩ := zb_o h
        obtain ⟨⟨r8, σ9⟩, e10, h⟩ := zb_o h
        refine za_calli (za_runV hx hb hml hown hts hK hI g7 (zm_Mo_put e10) zj_Mo_152 ⟨rfl, rfl⟩ ⟨Nat.le_of_ble_eq_true rfl, Nat.le_of_ble_eq_true rfl⟩ rfl hl.1 rfl (Nat.le_of_ble_eq_true rfl) zd_Mo_ruleG_62 ⟨Nat.le_of_ble_eq_true rfl, Nat.le_of_ble_eq_true rfl⟩) hI (fun H locs hI => ?_)
        refine lv_if_ne hx hb (tgt := 72) zd_Mo_ruleG_65 (by decide) (fun c11 => ?_) (fun c11 => ?_)
        · replace h := zb_f c11 h
          exact B72 _ hk4 _ _ ls a0 x1 x3 σ9 hI (lv_sub hl [1, 2, 4] rfl) h
        · replace h := zb_t c11 h
          refine lv_iload_n hx hb zd_Mo_ruleG_68 rfl (lv_at hl 3 rfl) ?_
          refine lv_if_eq hx hb (tgt := 76) zd_Mo_ruleG_69 (by decide) (fun c12 => ?_) (fun c12 => ?_)
          · replace h := zb_t c12 h
            refine lv_iconst (v := nI 0) hx hb zd_Mo_ruleG_76 (by decide) ?_
            exact B77 _ hk4 _ _ ls a0 x1 x3 (nI 0) σ9 hI (lv_sub hl [1, 2, 4] rfl) h
          · replace h := zb_f c12 h
            exact B72 _ hk4 _ _ ls a0 x1 x3 σ9 hI (lv_sub hl [1, 2, 4] rfl) h
  have B38 : ∀ (k4 : Nat → Int32 → Int32 → Int32 → za_h → Option (Int32 × za_h)), (∀ (H : Heap) (locs : List Loc) (ls : Array Slot) (a0 : Nat) (x1 : Int32) (x2 : Int32) (x3 : Int32) (σ : za_h), za_I D ca n0 s σ H locs → lv_has ls 5 [(0, .ref a0), (1, .int x1), (2, .int x2), (3, .int x3)] → k4 a0 x1 x2 x3 σ = some (r, σ') → W p l e ({ frames := 3, cells := 0, slots := 0, locals := 74 }) s m ([.ref ay0, .int xy1] : List Value).toArray below meth c H locs 0 0 (MQ below (za_Qi D ca n0 r σ') ([.ref ay0, .int xy1] : List Value).toArray s 0 0 (za_A n0)) (F0 m 4 ls [])) → ∀ (H : Heap) (locs : List Loc) (ls : Array Slot) (a0 : Nat) (x1 : Int32) (x2 : Int32) (x3 : Int32) (σ : za_h), za_I D ca n0 s σ H locs → lv_has ls 5 [(0, .ref a0), (1, .int x1), (2, .int x2), (3, .int x3)] → zf_Mo_ruleG_38 k4 a0 x1 x2 x3 σ = some (r, σ') → W p l e ({ frames := 3, cells := 0, slots := 0, locals := 74 }) s m ([.ref ay0, .int xy1] : List Value).toArray below meth c H locs 0 0 (MQ below (za_Qi D ca n0 r σ') ([.ref ay0, .int xy1] : List Value).toArray s 0 0 (za_A n0)) (F0 m 38 ls []) := by
    intro k4 hk4 H locs ls a0 x1 x2 x3 σ hI hl h
    unfold zf_Mo_ruleG_38 at h
    refine lv_iconst (v := nI 0) hx hb zd_Mo_ruleG_38 (by decide) ?_
    exact B39 _ hk4 _ _ ls a0 x1 x2 x3 (nI 0) σ hI (lv_sub hl [0, 1, 2, 3] rfl) h
  have B4 : ∀ n : Nat, ∀ (H : Heap) (locs : List Loc) (ls : Array Slot) (a0 : Nat) (x1 : Int32) (x2 : Int32) (x3 : Int32) (σ : za_h), za_I D ca n0 s σ H locs → lv_has ls 5 [(0, .ref a0), (1, .int x1), (2, .int x2), (3, .int x3)] → zf_Mo_ruleG_4 n a0 x1 x2 x3 σ = some (r, σ') → W p l e ({ frames := 3, cells := 0, slots := 0, locals := 74 }) s m ([.ref ay0, .int xy1] : List Value).toArray below meth c H locs 0 0 (MQ below (za_Qi D ca n0 r σ') ([.ref ay0, .int xy1] : List Value).toArray s 0 0 (za_A n0)) (F0 m 4 ls []) := by
    intro n
    induction n with
    | zero => intro H locs ls a0 x1 x2 x3 σ hI hl h; rw [zf_Mo_ruleG_4] at h; cases h
    | succ n ih =>
      intro H locs ls a0 x1 x2 x3 σ hI hl h
      rw [zf_Mo_ruleG_4] at h
      refine lv_iload_n hx hb zd_Mo_ruleG_4 rfl (lv_at hl 3 rfl) ?_
      refine lv_bipush (v := nI 28) hx hb zd_Mo_ruleG_5 (by decide) ?_
      refine lv_icmp_ge hx hb (tgt := 84) zd_Mo_ruleG_7 (by decide) (fun c1 => ?_) (fun c1 => ?_)
      · replace h := zb_t c1 h
        refine lv_iload_n hx hb zd_Mo_ruleG_84 rfl (lv_at hl 2 rfl) ?_
        obtain ⟨g2, h⟩ := zb_g h
        exact za_zret hx hb hr hlk hI g2 h (Nat.le_of_ble_eq_true rfl) (Nat.le_of_ble_eq_true rfl) zd_Mo_ruleG_85
      · replace h := zb_f c1 h
        refine lv_aload_n hx hb zd_Mo_ruleG_10 rfl (lv_at hl 0 rfl) ?_
        refine lv_iload_n hx hb zd_Mo_ruleG_11 rfl (lv_at hl 1 rfl) ?_
        refine lv_iconst (v := nI 1) hx hb zd_Mo_ruleG_12 (by decide) ?_
        refine lv_iconst (v := nI 0) hx hb zd_Mo_ruleG_13 (by decide) ?_
        refine lv_iload_n hx hb zd_Mo_ruleG_14 rfl (lv_at hl 3 rfl) ?_
        refine lv_iconst (v := nI 1) hx hb zd_Mo_ruleG_15 (by decide) ?_
        obtain ⟨_, g3, h⟩ := zb_o h
        obtain ⟨⟨r4, σ5⟩, e6, h⟩ := zb_o h
        refine za_calli (za_runV hx hb hml hown hts hK hI g3 (zm_Mo_clash e6) zj_Mo_135 ⟨rfl, rfl⟩ ⟨Nat.le_of_ble_eq_true rfl, Nat.le_of_ble_eq_true rfl⟩ rfl hl.1 rfl (Nat.le_of_ble_eq_true rfl) zd_Mo_ruleG_16 ⟨Nat.le_of_ble_eq_true rfl, Nat.le_of_ble_eq_true rfl⟩) hI (fun H locs hI => ?_)
        refine lv_if_ne hx hb (tgt := 38) zd_Mo_ruleG_19 (by decide) (fun c7 => ?_) (fun c7 => ?_)
        · replace h := zb_f c7 h
          exact B38 _ ih _ _ ls a0 x1 x2 x3 σ5 hI (lv_sub hl [0, 1, 2, 3] rfl) h
        · replace h := zb_t c7 h
          refine lv_aload_n hx hb zd_Mo_ruleG_22 rfl (lv_at hl 0 rfl) ?_
          refine lv_iload_n hx hb zd_Mo_ruleG_23 rfl (lv_at hl 1 rfl) ?_
          refine lv_iconst (v := nI 1) hx hb zd_Mo_ruleG_24 (by decide) ?_
          refine lv_iconst (v := nI 1) hx hb zd_Mo_ruleG_25 (by decide) ?_
          refine lv_iload_n hx hb zd_Mo_ruleG_26 rfl (lv_at hl 3 rfl) ?_
          refine lv_iconst (v := nI 1) hx hb zd_Mo_ruleG_27 (by decide) ?_
          obtain ⟨_, g8, h⟩ := zb_o h
          obtain ⟨⟨r9, σ10⟩, e11, h⟩ := zb_o h
          refine za_calli (za_runV hx hb hml hown hts hK hI g8 (zm_Mo_clash e11) zj_Mo_135 ⟨rfl, rfl⟩ ⟨Nat.le_of_ble_eq_true rfl, Nat.le_of_ble_eq_true rfl⟩ rfl hl.1 rfl (Nat.le_of_ble_eq_true rfl) zd_Mo_ruleG_28 ⟨Nat.le_of_ble_eq_true rfl, Nat.le_of_ble_eq_true rfl⟩) hI (fun H locs hI => ?_)
          refine lv_if_ne hx hb (tgt := 38) zd_Mo_ruleG_31 (by decide) (fun c12 => ?_) (fun c12 => ?_)
          · replace h := zb_f c12 h
            exact B38 _ ih _ _ ls a0 x1 x2 x3 σ10 hI (lv_sub hl [0, 1, 2, 3] rfl) h
          · replace h := zb_t c12 h
            refine lv_iconst (v := nI 1) hx hb zd_Mo_ruleG_34 (by decide) ?_
            refine lv_goto hx hb (tgt := 39) zd_Mo_ruleG_35 (by decide) ?_
            exact B39 _ ih _ _ ls a0 x1 x2 x3 (nI 1) σ10 hI (lv_sub hl [0, 1, 2, 3] rfl) h
  unfold zf_Mo_ruleG at h
  refine lv_iconst (v := nI 0) hx hb zd_Mo_ruleG_0 (by decide) ?_
  refine lv_istore_n (lv' := [(2, .int (nI 0)), (0, .ref ay0), (1, .int xy1)]) hx hb zd_Mo_ruleG_1 rfl hl (Nat.le_of_ble_eq_true rfl) rfl (fun ls hl => ?_)
  refine lv_iconst (v := nI 0) hx hb zd_Mo_ruleG_2 (by decide) ?_
  refine lv_istore_n (lv' := [(3, .int (nI 0)), (2, .int (nI 0)), (0, .ref ay0), (1, .int xy1)]) hx hb zd_Mo_ruleG_3 rfl hl (Nat.le_of_ble_eq_true rfl) rfl (fun ls hl => ?_)
  exact B4 29 _ _ ls ay0 xy1 (nI 0) (nI 0) σ hI (lv_sub hl [2, 3, 1, 0] rfl) h

def zf_Mo_best_142 (k9 : Nat → Int32 → Int32 → Int32 → Int32 → Int32 → za_h → Option (Int32 × za_h)) (a0 : Nat) (x1 : Int32) (x2 : Int32) (x3 : Int32) (x5 : Int32) (xs0 : Int32) (σ : za_h) : Option (Int32 × za_h) :=
  k9 a0 x1 x2 x3 xs0 (x5 + nI 1) σ

def zf_Mo_best_140 (k9 : Nat → Int32 → Int32 → Int32 → Int32 → Int32 → za_h → Option (Int32 × za_h)) (a0 : Nat) (x1 : Int32) (x2 : Int32) (x3 : Int32) (x4 : Int32) (x5 : Int32) (σ : za_h) : Option (Int32 × za_h) :=
  zf_Mo_best_142 k9 a0 x1 x2 x3 x5 x4 σ

def zf_Mo_best_123 (k9 : Nat → Int32 → Int32 → Int32 → Int32 → Int32 → za_h → Option (Int32 × za_h)) (a0 : Nat) (x1 : Int32) (x2 : Int32) (x3 : Int32) (x4 : Int32) (x5 : Int32) (x6 : Int32) (xs0 : Int32) (σ : za_h) : Option (Int32 × za_h) :=
  if x6 = 0 then
  (zf_Mo_best_140 k9 a0 x1 x2 x3 x4 x5 σ)
  else
  (if xs0 = 0 then
  (zf_Mo_best_140 k9 a0 x1 x2 x3 x4 x5 σ)
  else
  (zf_Mo_best_142 k9 a0 x1 x2 x3 x5 x5 σ))

def zf_Mo_best_118 (k9 : Nat → Int32 → Int32 → Int32 → Int32 → Int32 → za_h → Option (Int32 × za_h)) (a0 : Nat) (x1 : Int32) (x2 : Int32) (x3 : Int32) (x4 : Int32) (x5 : Int32) (x6 : Int32) (σ : za_h) : Option (Int32 × za_h) :=
  zf_Mo_best_123 k9 a0 x1 x2 x3 x4 x5 x6 (nI 1) σ

def zf_Mo_best_122 (k9 : Nat → Int32 → Int32 → Int32 → Int32 → Int32 → za_h → Option (Int32 × za_h)) (a0 : Nat) (x1 : Int32) (x2 : Int32) (x3 : Int32) (x4 : Int32) (x5 : Int32) (x6 : Int32) (σ : za_h) : Option (Int32 × za_h) :=
  zf_Mo_best_123 k9 a0 x1 x2 x3 x4 x5 x6 (nI 0) σ

def zf_Mo_best_70 (k9 : Nat → Int32 → Int32 → Int32 → Int32 → Int32 → za_h → Option (Int32 × za_h)) (a0 : Nat) (x1 : Int32) (x2 : Int32) (x3 : Int32) (x4 : Int32) (x5 : Int32) (xs0 : Int32) (σ : za_h) : Option (Int32 × za_h) :=
  if x4 < 0 then
  (zf_Mo_best_118 k9 a0 x1 x2 x3 x4 x5 xs0 σ)
  else
  (if x2 = 0 then
  ((zg_r σ a0 10 30).bind fun b13 =>
  (za_ld σ b13 0 x5).bind fun v14 =>
  (zg_r σ a0 10 30).bind fun b17 =>
  (za_ld σ b17 0 x4).bind fun v18 =>
  if v18 ≤ v14 then
  (zf_Mo_best_122 k9 a0 x1 x2 x3 x4 x5 xs0 σ)
  else
  (zf_Mo_best_118 k9 a0 x1 x2 x3 x4 x5 xs0 σ))
  else
  ((zg_r σ a0 10 30).bind fun b4 =>
  (za_ld σ b4 0 x5).bind fun v5 =>
  (zg_r σ a0 10 30).bind fun b8 =>
  (za_ld σ b8 0 x4).bind fun v9 =>
  if v5 ≤ v9 then
  (zf_Mo_best_122 k9 a0 x1 x2 x3 x4 x5 xs0 σ)
  else
  (zf_Mo_best_118 k9 a0 x1 x2 x3 x4 x5 xs0 σ)))

def zf_Mo_best_69 (k9 : Nat → Int32 → Int32 → Int32 → Int32 → Int32 → za_h → Option (Int32 × za_h)) (a0 : Nat) (x1 : Int32) (x2 : Int32) (x3 : Int32) (x4 : Int32) (x5 : Int32) (σ : za_h) : Option (Int32 × za_h) :=
  zf_Mo_best_70 k9 a0 x1 x2 x3 x4 x5 (nI 0) σ

def zf_Mo_best_65 (k9 : Nat → Int32 → Int32 → Int32 → Int32 → Int32 → za_h → Option (Int32 × za_h)) (a0 : Nat) (x1 : Int32) (x2 : Int32) (x3 : Int32) (x4 : Int32) (x5 : Int32) (σ : za_h) : Option (Int32 × za_h) :=
  zf_Mo_best_70 k9 a0 x1 x2 x3 x4 x5 (nI 1) σ

def zf_Mo_best_9 : Nat → Nat → Int32 → Int32 → Int32 → Int32 → Int32 → za_h → Option (Int32 × za_h)
  | 0, _, _, _, _, _, _, _ => none
  | n + 1, a0, x1, x2, x3, x4, x5, σ =>
  (zg_r σ a0 10 27).bind fun b2 =>
  (za_ld σ b2 0 x1).bind fun v3 =>
  if (((nI 9) * x1) + v3) ≤ x5 then
  (some (x4, σ))
  else
  ((zg_r σ a0 10 29).bind fun b7 =>
  (za_ld σ b7 0 x5).bind fun v8 =>
  if v8 = x2 then
  (zf_Mo_best_69 (zf_Mo_best_9 n) a0 x1 x2 x3 x4 x5 σ)
  else
  (if x2 = 0 then
  ((zg_r σ a0 10 30).bind fun b18 =>
  (za_ld σ b18 0 x5).bind fun v19 =>
  if x3 < v19 then
  (zf_Mo_best_69 (zf_Mo_best_9 n) a0 x1 x2 x3 x4 x5 σ)
  else
  (zf_Mo_best_65 (zf_Mo_best_9 n) a0 x1 x2 x3 x4 x5 σ))
  else
  ((zg_r σ a0 10 30).bind fun b13 =>
  (za_ld σ b13 0 x5).bind fun v14 =>
  if v14 < x3 then
  (zf_Mo_best_69 (zf_Mo_best_9 n) a0 x1 x2 x3 x4 x5 σ)
  else
  (zf_Mo_best_65 (zf_Mo_best_9 n) a0 x1 x2 x3 x4 x5 σ))))

def zf_Mo_best (ay0 : Nat) (xy1 : Int32) (xy2 : Int32) (xy3 : Int32) (σ : za_h) : Option (Int32 × za_h) :=
  zf_Mo_best_9 10 ay0 xy1 xy2 xy3 (-1) ((nI 9) * xy1) σ
set_option maxRecDepth 100000 in
set_option maxHeartbeats 4000000 in
theorem zm_Mo_best {l : Launch} {D : va_G} {ca : Nat → ClassId} {n0 : Nat} {ay0 : Nat} {xy1 : Int32} {xy2 : Int32} {xy3 : Int32} {σ σ' : za_h} {r : Int32} (h : zf_Mo_best ay0 xy1 xy2 xy3 σ = some (r, σ')) : Met l zy_Mo_best (za_wy zy_Mo_best zc_Mo_best 8 (some .int)) { frames := 0, cells := 0, slots := 0, locals := 0 } (za_Pc D ca n0 [.ref ay0, .int xy1, .int xy2, .int xy3] σ) (za_Qi D ca n0 r σ') 0 0 (za_A n0) := by
  refine za_met (by decide) (Nat.le_of_ble_eq_true rfl) ?_
  intro p e s m below meth c ls hx hb hml hr hlk hts hown hnm hK hI hl
  replace hown : s.vm.findClass zR_Mo = some m.cls := hown
  replace hl : lv_has ls 8 [(0, .ref ay0), (1, .int xy1), (2, .int xy2), (3, .int xy3)] := hl
  have B142 : ∀ (k9 : Nat → Int32 → Int32 → Int32 → Int32 → Int32 → za_h → Option (Int32 × za_h)), (∀ (H : Heap) (locs : List Loc) (ls : Array Slot) (a0 : Nat) (x1 : Int32) (x2 : Int32) (x3 : Int32) (x4 : Int32) (x5 : Int32) (σ : za_h), za_I D ca n0 s σ H locs → lv_has ls 8 [(0, .ref a0), (1, .int x1), (2, .int x2), (3, .int x3), (4, .int x4), (5, .int x5)] → k9 a0 x1 x2 x3 x4 x5 σ = some (r, σ') → W p l e ({ frames := 0, cells := 0, slots := 0, locals := 0 }) s m ([.ref ay0, .int xy1, .int xy2, .int xy3] : List Value).toArray below meth c H locs 0 0 (MQ below (za_Qi D ca n0 r σ') ([.ref ay0, .int xy1, .int xy2, .int xy3] : List Value).toArray s 0 0 (za_A n0)) (F0 m 9 ls [])) → ∀ (H : Heap) (locs : List Loc) (ls : Array Slot) (a0 : Nat) (x1 : Int32) (x2 : Int32) (x3 : Int32) (x5 : Int32) (xs0 : Int32) (σ : za_h), za_I D ca n0 s σ H locs → lv_has ls 8 [(0, .ref a0), (1, .int x1), (2, .int x2), (3, .int x3), (5, .int x5)] → zf_Mo_best_142 k9 a0 x1 x2 x3 x5 xs0 σ = some (r, σ') → W p l e ({ frames := 0, cells := 0, slots := 0, locals := 0 }) s m ([.ref ay0, .int xy1, .int xy2, .int xy3] : List Value).toArray below meth c H locs 0 0 (MQ below (za_Qi D ca n0 r σ') ([.ref ay0, .int xy1, .int xy2, .int xy3] : List Value).toArray s 0 0 (za_A n0)) (F0 m 142 ls [.int xs0]) := by
    intro k9 hk9 H locs ls a0 x1 x2 x3 x5 xs0 σ hI hl h
    unfold zf_Mo_best_142 at h
    refine lv_istore (lv' := [(4, .int xs0), (0, .ref a0), (1, .int x1), (2, .int x2), (3, .int x3), (5, .int x5)]) hx hb zd_Mo_best_142 hl (Nat.le_of_ble_eq_true rfl) rfl (fun ls hl => ?_)
    refine lv_iinc (k := 5) (v := (x5 + nI 1)) (lv' := [(5, .int (x5 + nI 1)), (4, .int xs0), (0, .ref a0), (1, .int x1), (2, .int x2), (3, .int x3)]) hx hb zd_Mo_best_144 hl rfl rfl (Nat.le_of_ble_eq_true rfl) rfl (fun ls hl => ?_)
    refine lv_goto hx hb (tgt := 9) zd_Mo_best_147 (by decide) ?_
    exact hk9 _ _ ls a0 x1 x2 x3 xs0 (x5 + nI 1) σ hI (lv_sub hl [2, 3, 4, 5, 1, 0] rfl) h
  have B140 : ∀ (k9 : Nat → Int32 → Int32 → Int32 → Int32 → Int32 → za_h → Option (Int32 × za_h)), (∀ (H : Heap) (locs : List Loc) (ls : Array Slot) (a0 : Nat) (x1 : Int32) (x2 : Int32) (x3 : Int32) (x4 : Int32) (x5 : Int32) (σ : za_h), za_I D ca n0 s σ H locs → lv_has ls 8 [(0, .ref a0), (1, .int x1), (2, .int x2), (3, .int x3), (4, .int x4), (5, .int x5)] → k9 a0 x1 x2 x3 x4 x5 σ = some (r, σ') → W p l e ({ frames := 0, cells := 0, slots := 0, locals := 0 }) s m ([.ref ay0, .int xy1, .int xy2, .int xy3] : List Value).toArray below meth c H locs 0 0 (MQ below (za_Qi D ca n0 r σ') ([.ref ay0, .int xy1, .int xy2, .int xy3] : List Value).toArray s 0 0 (za_A n0)) (F0 m 9 ls [])) → ∀ (H : Heap) (locs : List Loc) (ls : Array Slot) (a0 : Nat) (x1 : Int32) (x2 : Int32) (x3 : Int32) (x4 : Int32) (x5 : Int32) (σ : za_h), za_I D ca n0 s σ H locs → lv_has ls 8 [(0, .ref a0), (1, .int x1), (2, .int x2), (3, .int x3), (4, .int x4), (5, .int x5)] → zf_Mo_best_140 k9 a0 x1 x2 x3 x4 x5 σ = some (r, σ') → W p l e ({ frames := 0, cells := 0, slots := 0, locals := 0 }) s m ([.ref ay0, .int xy1, .int xy2, .int xy3] : List Value).toArray below meth c H locs 0 0 (MQ below (za_Qi D ca n0 r σ') ([.ref ay0, .int xy1, .int xy2, .int xy3] : List Value).toArray s 0 0 (za_A n0)) (F0 m 140 ls []) := by
    intro k9 hk9 H locs ls a0 x1 x2 x3 x4 x5 σ hI hl h
    unfold zf_Mo_best_140 at h
    refine lv_iload hx hb zd_Mo_best_140 (lv_at hl 4 rfl) ?_
    exact B142 _ hk9 _ _ ls a0 x1 x2 x3 x5 x4 σ hI (lv_sub hl [0, 1, 2, 3, 5] rfl) h
  have B123 : ∀ (k9 : Nat → Int32 → Int32 → Int32 → Int32 → Int32 → za_h → Option (Int32 × za_h)), (∀ (H : Heap) (locs : List Loc) (ls : Array Slot) (a0 : Nat) (x1 : Int32) (x2 : Int32) (x3 : Int32) (x4 : Int32) (x5 : Int32) (σ : za_h), za_I D ca n0 s σ H locs → lv_has ls 8 [(0, .ref a0), (1, .int x1), (2, .int x2), (3, .int x3), (4, .int x4), (5, .int x5)] → k9 a0 x1 x2 x3 x4 x5 σ = some (r, σ') → W p l e ({ frames := 0, cells := 0, slots := 0, locals := 0 }) s m ([.ref ay0, .int xy1, .int xy2, .int xy3] : List Value).toArray below meth c H locs 0 0 (MQ below (za_Qi D ca n0 r σ') ([.ref ay0, .int xy1, .int xy2, .int xy3] : List Value).toArray s 0 0 (za_A n0)) (F0 m 9 ls [])) → ∀ (H : Heap) (locs : List Loc) (ls : Array Slot) (a0 : Nat) (x1 : Int32) (x2 : Int32) (x3 : Int32) (x4 : Int32) (x5 : Int32) (x6 : Int32) (xs0 : Int32) (σ : za_h), za_I D ca n0 s σ H locs → lv_has ls 8 [(0, .ref a0), (1, .int x1), (2, .int x2), (3, .int x3), (4, .int x4), (5, .int x5), (6, .int x6)] → zf_Mo_best_123 k9 a0 x1 x2 x3 x4 x5 x6 xs0 σ = some (r, σ') → W p l e ({ frames := 0, cells := 0, slots := 0, locals := 0 }) s m ([.ref ay0, .int xy1, .int xy2, .int xy3] : List Value).toArray below meth c H locs 0 0 (MQ below (za_Qi D ca n0 r σ') ([.ref ay0, .int xy1, .int xy2, .int xy3] : List Value).toArray s 0 0 (za_A n0)) (F0 m 123 ls [.int xs0]) := by
    intro k9 hk9 H locs ls a0 x1 x2 x3 x4 x5 x6 xs0 σ hI hl h
    unfold zf_Mo_best_123 at h
    refine lv_istore (lv' := [(7, .int xs0), (0, .ref a0), (1, .int x1), (2, .int x2), (3, .int x3), (4, .int x4), (5, .int x5), (6, .int x6)]) hx hb zd_Mo_best_123 hl (Nat.le_of_ble_eq_true rfl) rfl (fun ls hl => ?_)
    refine lv_iload hx hb zd_Mo_best_125 (lv_at hl 7 rfl) ?_
    refine lv_if_eq hx hb (tgt := 140) zd_Mo_best_127 (by decide) (fun c1 => ?_) (fun c1 => ?_)
    · replace h := zb_t c1 h
      exact B140 _ hk9 _ _ ls a0 x1 x2 x3 x4 x5 σ hI (lv_sub hl [1, 2, 3, 4, 5, 6] rfl) h
    · replace h := zb_f c1 h
      refine lv_iload hx hb zd_Mo_best_130 (lv_at hl 0 rfl) ?_
      refine lv_if_eq hx hb (tgt := 140) zd_Mo_best_132 (by decide) (fun c2 => ?_) (fun c2 => ?_)
      · replace h := zb_t c2 h
        exact B140 _ hk9 _ _ ls a0 x1 x2 x3 x4 x5 σ hI (lv_sub hl [1, 2, 3, 4, 5, 6] rfl) h
      · replace h := zb_f c2 h
        refine lv_iload hx hb zd_Mo_best_135 (lv_at hl 6 rfl) ?_
        refine lv_goto hx hb (tgt := 142) zd_Mo_best_137 (by decide) ?_
        exact B142 _ hk9 _ _ ls a0 x1 x2 x3 x5 x5 σ hI (lv_sub hl [1, 2, 3, 4, 6] rfl) h
  have B118 : ∀ (k9 : Nat → Int32 → Int32 → Int32 → Int32 → Int32 → za_h → Option (Int32 × za_h)), (∀ (H : Heap) (locs : List Loc) (ls : Array Slot) (a0 : Nat) (x1 : Int32) (x2 : Int32) (x3 : Int32) (x4 : Int32) (x5 : Int32) (σ : za_h), za_I D ca n0 s σ H locs → lv_has ls 8 [(0, .ref a0), (1, .int x1), (2, .int x2), (3, .int x3), (4, .int x4), (5, .int x5)] → k9 a0 x1 x2 x3 x4 x5 σ = some (r, σ') → W p l e ({ frames := 0, cells := 0, slots := 0, locals := 0 }) s m ([.ref ay0, .int xy1, .int xy2, .int xy3] : List Value).toArray below meth c H locs 0 0 (MQ below (za_Qi D ca n0 r σ') ([.ref ay0, .int xy1, .int xy2, .int xy3] : List Value).toArray s 0 0 (za_A n0)) (F0 m 9 ls [])) → ∀ (H : Heap) (locs : List Loc) (ls : Array Slot) (a0 : Nat) (x1 : Int32) (x2 : Int32) (x3 : Int32) (x4 : Int32) (x5 : Int32) (x6 : Int32) (σ : za_h), za_I D ca n0 s σ H locs → lv_has ls 8 [(0, .ref a0), (1, .int x1), (2, .int x2), (3, .int x3), (4, .int x4), (5, .int x5), (6, .int x6)] → zf_Mo_best_118 k9 a0 x1 x2 x3 x4 x5 x6 σ = some (r, σ') → W p l e ({ frames := 0, cells := 0, slots := 0, locals := 0 }) s m ([.ref ay0, .int xy1, .int xy2, .int xy3] : List Value).toArray below meth c H locs 0 0 (MQ below (za_Qi D ca n0 r σ') ([.ref ay0, .int xy1, .int xy2, .int xy3] : List Value).toArray s 0 0 (za_A n0)) (F0 m 118 ls []) := by
    intro k9 hk9 H locs ls a0 x1 x2 x3 x4 x5 x6 σ hI hl h
    unfold zf_Mo_best_118 at h
    refine lv_iconst (v := nI 1) hx hb zd_Mo_best_118 (by decide) ?_
    refine lv_goto hx hb (tgt := 123) zd_Mo_best_119 (by decide) ?_
    exact B123 _ hk9 _ _ ls a0 x1 x2 x3 x4 x5 x6 (nI 1) σ hI (lv_sub hl [0, 1, 2, 3, 4, 5, 6] rfl) h
  have B122 : ∀ (k9 : Nat → Int32 → Int32 → Int32 → Int32 → Int32 → za_h → Option (Int32 × za_h)), (∀ (H : Heap) (locs : List Loc) (ls : Array Slot) (a0 : Nat) (x1 : Int32) (x2 : Int32) (x3 : Int32) (x4 : Int32) (x5 : Int32) (σ : za_h), za_I D ca n0 s σ H locs → lv_has ls 8 [(0, .ref a0), (1, .int x1), (2, .int x2), (3, .int x3), (4, .int x4), (5, .int x5)] → k9 a0 x1 x2 x3 x4 x5 σ = some (r, σ') → W p l e ({ frames := 0, cells := 0, slots := 0, locals := 0 }) s m ([.ref ay0, .int xy1, .int xy2, .int xy3] : List Value).toArray below meth c H locs 0 0 (MQ below (za_Qi D ca n0 r σ') ([.ref ay0, .int xy1, .int xy2, .int xy3] : List Value).toArray s 0 0 (za_A n0)) (F0 m 9 ls [])) → ∀ (H : Heap) (locs : List Loc) (ls : Array Slot) (a0 : Nat) (x1 : Int32) (x2 : Int32) (x3 : Int32) (x4 : Int32) (x5 : Int32) (x6 : Int32) (σ : za_h), za_I D ca n0 s σ H locs → lv_has ls 8 [(0, .ref a0), (1, .int x1), (2, .int x2), (3, .int x3), (4, .int x4), (5, .int x5), (6, .int x6)] → zf_Mo_best_122 k9 a0 x1 x2 x3 x4 x5 x6 σ = some (r, σ') → W p l e ({ frames := 0, cells := 0, slots := 0, locals := 0 }) s m ([.ref ay0, .int xy1, .int xy2, .int xy3] : List Value).toArray below meth c H locs 0 0 (MQ below (za_Qi D ca n0 r σ') ([.ref ay0, .int xy1, .int xy2, .int xy3] : List Value).toArray s 0 0 (za_A n0)) (F0 m 122 ls []) := by
    intro k9 hk9 H locs ls a0 x1 x2 x3 x4 x5 x6 σ hI hl h
    unfold zf_Mo_best_122 at h
    refine lv_iconst (v := nI 0) hx hb zd_Mo_best_122 (by decide) ?_
    exact B123 _ hk9 _ _ ls a0 x1 x2 x3 x4 x5 x6 (nI 0) σ hI (lv_sub hl [0, 1, 2, 3, 4, 5, 6] rfl) h
  have B70 : ∀ (k9 : Nat → Int32 → Int32 → Int32 → Int32 → Int32 → za_h → Option (Int32 × za_h)), (∀ (H : Heap) (locs : List Loc) (ls : Array Slot) (a0 : Nat) (x1 : Int32) (x2 : Int32) (x3 : Int32) (x4 : Int32) (x5 : Int32) (σ : za_h), za_I D ca n0 s σ H locs → lv_has ls 8 [(0, .ref a0), (1, .int x1), (2, .int x2), (3, .int x3), (4, .int x4), (5, .int x5)] → k9 a0 x1 x2 x3 x4 x5 σ = some (r, σ') → W p l e ({ frames := 0, cells := 0, slots := 0, locals := 0 }) s m ([.ref ay0, .int xy1, .int xy2, .int xy3] : List Value).toArray below meth c H locs 0 0 (MQ below (za_Qi D ca n0 r σ') ([.ref ay0, .int xy1, .int xy2, .int xy3] : List Value).toArray s 0 0 (za_A n0)) (F0 m 9 ls [])) → ∀ (H : Heap) (locs : List Loc) (ls : Array Slot) (a0 : Nat) (x1 : Int32) (x2 : Int32) (x3 : Int32) (x4 : Int32) (x5 : Int32) (xs0 : Int32) (σ : za_h), za_I D ca n0 s σ H locs → lv_has ls 8 [(0, .ref a0), (1, .int x1), (2, .int x2), (3, .int x3), (4, .int x4), (5, .int x5)] → zf_Mo_best_70 k9 a0 x1 x2 x3 x4 x5 xs0 σ = some (r, σ') → W p l e ({ frames := 0, cells := 0, slots := 0, locals := 0 }) s m ([.ref ay0, .int xy1, .int xy2, .int xy3] : List Value).toArray below meth c H locs 0 0 (MQ below (za_Qi D ca n0 r σ') ([.ref ay0, .int xy1, .int xy2, .int xy3] : List Value).toArray s 0 0 (za_A n0)) (F0 m 70 ls [.int xs0]) := by
    intro k9 hk9 H locs ls a0 x1 x2 x3 x4 x5 xs0 σ hI hl h
    unfold zf_Mo_best_70 at h
    refine lv_istore (lv' := [(6, .int xs0), (0, .ref a0), (1, .int x1), (2, .int x2), (3, .int x3), (4, .int x4), (5, .int x5)]) hx hb zd_Mo_best_70 hl (Nat.le_of_ble_eq_true rfl) rfl (fun ls hl => ?_)
    refine lv_iload hx hb zd_Mo_best_72 (lv_at hl 5 rfl) ?_
    refine lv_if_lt hx hb (tgt := 118) zd_Mo_best_74 (by decide) (fun c1 => ?_) (fun c1 => ?_)
    · replace h := zb_t c1 h
      exact B118 _ hk9 _ _ ls a0 x1 x2 x3 x4 x5 xs0 σ hI (lv_sub hl [1, 2, 3, 4, 5, 6, 0] rfl) h
    · replace h := zb_f c1 h
      refine lv_iload_n hx hb zd_Mo_best_77 rfl (lv_at hl 3 rfl) ?_
      refine lv_if_ne hx hb (tgt := 101) zd_Mo_best_78 (by decide) (fun c2 => ?_) (fun c2 => ?_)
      · replace h := zb_f c2 h
        refine lv_aload_n hx hb zd_Mo_best_101 rfl (lv_at hl 1 rfl) ?_
        obtain ⟨b4, e3, h⟩ := zb_o h
        refine za_getr hx hb hts hown hK hI zl_Mo_92 e3 zd_Mo_best_102 ?_
        refine lv_iload hx hb zd_Mo_best_105 (lv_at hl 6 rfl) ?_
        obtain ⟨v5, e6, h⟩ := zb_o h
        refine za_iald hx hb hK hI e6 zd_Mo_best_107 ?_
        refine lv_aload_n hx hb zd_Mo_best_108 rfl (lv_at hl 1 rfl) ?_
        obtain ⟨b8, e7, h⟩ := zb_o h
        refine za_getr hx hb hts hown hK hI zl_Mo_92 e7 zd_Mo_best_109 ?_
        refine lv_iload hx hb zd_Mo_best_112 (lv_at hl 5 rfl) ?_
        obtain ⟨v9, e10, h⟩ := zb_o h
        refine za_iald hx hb hK hI e10 zd_Mo_best_114 ?_
        refine lv_icmp_le hx hb (tgt := 122) zd_Mo_best_115 (by decide) (fun c11 => ?_) (fun c11 => ?_)
        · replace h := zb_t c11 h
          exact B122 _ hk9 _ _ ls a0 x1 x2 x3 x4 x5 xs0 σ hI (lv_sub hl [1, 2, 3, 4, 5, 6, 0] rfl) h
        · replace h := zb_f c11 h
          exact B118 _ hk9 _ _ ls a0 x1 x2 x3 x4 x5 xs0 σ hI (lv_sub hl [1, 2, 3, 4, 5, 6, 0] rfl) h
      · replace h := zb_t c2 h
        refine lv_aload_n hx hb zd_Mo_best_81 rfl (lv_at hl 1 rfl) ?_
        obtain ⟨b13, e12, h⟩ := zb_o h
        refine za_getr hx hb hts hown hK hI zl_Mo_92 e12 zd_Mo_best_82 ?_
        refine lv_iload hx hb zd_Mo_best_85 (lv_at hl 6 rfl) ?_
        obtain ⟨v14, e15, h⟩ := zb_o h
        refine za_iald hx hb hK hI e15 zd_Mo_best_87 ?_
        refine lv_aload_n hx hb zd_Mo_best_88 rfl (lv_at hl 1 rfl) ?_
        obtain ⟨b17, e16, h⟩ := zb_o h
        refine za_getr hx hb hts hown hK hI zl_Mo_92 e16 zd_Mo_best_89 ?_
        refine lv_iload hx hb zd_Mo_best_92 (lv_at hl 5 rfl) ?_
        obtain ⟨v18, e19, h⟩ := zb_o h
        refine za_iald hx hb hK hI e19 zd_Mo_best_94 ?_
        refine lv_icmp_ge hx hb (tgt := 122) zd_Mo_best_95 (by decide) (fun c20 => ?_) (fun c20 => ?_)
        · replace h := zb_t c20 h
          exact B122 _ hk9 _ _ ls a0 x1 x2 x3 x4 x5 xs0 σ hI (lv_sub hl [1, 2, 3, 4, 5, 6, 0] rfl) h
        · replace h := zb_f c20 h
          refine lv_goto hx hb (tgt := 118) zd_Mo_best_98 (by decide) ?_
          exact B118 _ hk9 _ _ ls a0 x1 x2 x3 x4 x5 xs0 σ hI (lv_sub hl [1, 2, 3, 4, 5, 6, 0] rfl) h
  have B69 : ∀ (k9 : Nat → Int32 → Int32 → Int32 → Int32 → Int32 → za_h → Option (Int32 × za_h)), (∀ (H : Heap) (locs : List Loc) (ls : Array Slot) (a0 : Nat) (x1 : Int32) (x2 : Int32) (x3 : Int32) (x4 : Int32) (x5 : Int32) (σ : za_h), za_I D ca n0 s σ H locs → lv_has ls 8 [(0, .ref a0), (1, .int x1), (2, .int x2), (3, .int x3), (4, .int x4), (5, .int x5)] → k9 a0 x1 x2 x3 x4 x5 σ = some (r, σ') → W p l e ({ frames := 0, cells := 0, slots := 0, locals := 0 }) s m ([.ref ay0, .int xy1, .int xy2, .int xy3] : List Value).toArray below meth c H locs 0 0 (MQ below (za_Qi D ca n0 r σ') ([.ref ay0, .int xy1, .int xy2, .int xy3] : List Value).toArray s 0 0 (za_A n0)) (F0 m 9 ls [])) → ∀ (H : Heap) (locs : List Loc) (ls : Array Slot) (a0 : Nat) (x1 : Int32) (x2 : Int32) (x3 : Int32) (x4 : Int32) (x5 : Int32) (σ : za_h), za_I D ca n0 s σ H locs → lv_has ls 8 [(0, .ref a0), (1, .int x1), (2, .int x2), (3, .int x3), (4, .int x4), (5, .int x5)] → zf_Mo_best_69 k9 a0 x1 x2 x3 x4 x5 σ = some (r, σ') → W p l e ({ frames := 0, cells := 0, slots := 0, locals := 0 }) s m ([.ref ay0, .int xy1, .int xy2, .int xy3] : List Value).toArray below meth c H locs 0 0 (MQ below (za_Qi D ca n0 r σ') ([.ref ay0, .int xy1, .int xy2, .int xy3] : List Value).toArray s 0 0 (za_A n0)) (F0 m 69 ls []) := by
    intro k9 hk9 H locs ls a0 x1 x2 x3 x4 x5 σ hI hl h
    unfold zf_Mo_best_69 at h
    refine lv_iconst (v := nI 0) hx hb zd_Mo_best_69 (by decide) ?_
    exact B70 _ hk9 _ _ ls a0 x1 x2 x3 x4 x5 (nI 0) σ hI (lv_sub hl [0, 1, 2, 3, 4, 5] rfl) h
  have B65 : ∀ (k9 : Nat → Int32 → Int32 → Int32 → Int32 → Int32 → za_h → Option (Int32 × za_h)), (∀ (H : Heap) (locs : List Loc) (ls : Array Slot) (a0 : Nat) (x1 : Int32) (x2 : Int32) (x3 : Int32) (x4 : Int32) (x5 : Int32) (σ : za_h), za_I D ca n0 s σ H locs → lv_has ls 8 [(0, .ref a0), (1, .int x1), (2, .int x2), (3, .int x3), (4, .int x4), (5, .int x5)] → k9 a0 x1 x2 x3 x4 x5 σ = some (r, σ') → W p l e ({ frames := 0, cells := 0, slots := 0, locals := 0 }) s m ([.ref ay0, .int xy1, .int xy2, .int xy3] : List Value).toArray below meth c H locs 0 0 (MQ below (za_Qi D ca n0 r σ') ([.ref ay0, .int xy1, .int xy2, .int xy3] : List Value).toArray s 0 0 (za_A n0)) (F0 m 9 ls [])) → ∀ (H : Heap) (locs : List Loc) (ls : Array Slot) (a0 : Nat) (x1 : Int32) (x2 : Int32) (x3 : Int32) (x4 : Int32) (x5 : Int32) (σ : za_h), za_I D ca n0 s σ H locs → lv_has ls 8 [(0, .ref a0), (1, .int x1), (2, .int x2), (3, .int x3), (4, .int x4), (5, .int x5)] → zf_Mo_best_65 k9 a0 x1 x2 x3 x4 x5 σ = some (r, σ') → W p l e ({ frames := 0, cells := 0, slots := 0, locals := 0 }) s m ([.ref ay0, .int xy1, .int xy2, .int xy3] : List Value).toArray below meth c H locs 0 0 (MQ below (za_Qi D ca n0 r σ') ([.ref ay0, .int xy1, .int xy2, .int xy3] : List Value).toArray s 0 0 (za_A n0)) (F0 m 65 ls []) := by
    intro k9 hk9 H locs ls a0 x1 x2 x3 x4 x5 σ hI hl h
    unfold zf_Mo_best_65 at h
    refine lv_iconst (v := nI 1) hx hb zd_Mo_best_65 (by decide) ?_
    refine lv_goto hx hb (tgt := 70) zd_Mo_best_66 (by decide) ?_
    exact B70 _ hk9 _ _ ls a0 x1 x2 x3 x4 x5 (nI 1) σ hI (lv_sub hl [0, 1, 2, 3, 4, 5] rfl) h
  have B9 : ∀ n : Nat, ∀ (H : Heap) (locs : List Loc) (ls : Array Slot) (a0 : Nat) (x1 : Int32) (x2 : Int32) (x3 : Int32) (x4 : Int32) (x5 : Int32) (σ : za_h), za_I D ca n0 s σ H locs → lv_has ls 8 [(0, .ref a0), (1, .int x1), (2, .int x2), (3, .int x3), (4, .int x4), (5, .int x5)] → zf_Mo_best_9 n a0 x1 x2 x3 x4 x5 σ = some (r, σ') → W p l e ({ frames := 0, cells := 0, slots := 0, locals := 0 }) s m ([.ref ay0, .int xy1, .int xy2, .int xy3] : List Value).toArray below meth c H locs 0 0 (MQ below (za_Qi D ca n0 r σ') ([.ref ay0, .int xy1, .int xy2, .int xy3] : List Value).toArray s 0 0 (za_A n0)) (F0 m 9 ls []) := by
    intro n
    induction n with
    | zero => intro H locs ls a0 x1 x2 x3 x4 x5 σ hI hl h; rw [zf_Mo_best_9] at h; cases h
    | succ n ih =>
      intro H locs ls a0 x1 x2 x3 x4 x5 σ hI hl h
      rw [zf_Mo_best_9] at h
      refine lv_iload hx hb zd_Mo_best_9 (lv_at hl 5 rfl) ?_
      refine lv_bipush (v := nI 9) hx hb zd_Mo_best_11 (by decide) ?_
      refine lv_iload_n hx hb zd_Mo_best_13 rfl (lv_at hl 1 rfl) ?_
      refine lv_imul hx hb zd_Mo_best_14 ?_
      refine lv_aload_n hx hb zd_Mo_best_15 rfl (lv_at hl 0 rfl) ?_
      obtain ⟨b2, e1, h⟩ := zb_o h
      refine za_getr hx hb hts hown hK hI zl_Mo_83 e1 zd_Mo_best_16 ?_
      refine lv_iload_n hx hb zd_Mo_best_19 rfl (lv_at hl 1 rfl) ?_
      obtain ⟨v3, e4, h⟩ := zb_o h
      refine za_iald hx hb hK hI e4 zd_Mo_best_20 ?_
      refine lv_iadd hx hb zd_Mo_best_21 ?_
      refine lv_icmp_ge hx hb (tgt := 150) zd_Mo_best_22 (by decide) (fun c5 => ?_) (fun c5 => ?_)
      · replace h := zb_t c5 h
        refine lv_iload hx hb zd_Mo_best_150 (lv_at hl 4 rfl) ?_
        exact za_iret hx hb hr hlk hI h (Nat.le_of_ble_eq_true rfl) (Nat.le_of_ble_eq_true rfl) zd_Mo_best_152
      · replace h := zb_f c5 h
        refine lv_aload_n hx hb zd_Mo_best_25 rfl (lv_at hl 0 rfl) ?_
        obtain ⟨b7, e6, h⟩ := zb_o h
        refine za_getr hx hb hts hown hK hI zl_Mo_89 e6 zd_Mo_best_26 ?_
        refine lv_iload hx hb zd_Mo_best_29 (lv_at hl 5 rfl) ?_
        obtain ⟨v8, e9, h⟩ := zb_o h
        refine za_iald hx hb hK hI e9 zd_Mo_best_31 ?_
        refine lv_iload_n hx hb zd_Mo_best_32 rfl (lv_at hl 2 rfl) ?_
        refine lv_icmp_eq hx hb (tgt := 69) zd_Mo_best_33 (by decide) (fun c10 => ?_) (fun c10 => ?_)
        · replace h := zb_t c10 h
          exact B69 _ ih _ _ ls a0 x1 x2 x3 x4 x5 σ hI (lv_sub hl [0, 1, 2, 3, 4, 5] rfl) h
        · replace h := zb_f c10 h
          refine lv_iload_n hx hb zd_Mo_best_36 rfl (lv_at hl 2 rfl) ?_
          refine lv_if_ne hx hb (tgt := 54) zd_Mo_best_37 (by decide) (fun c11 => ?_) (fun c11 => ?_)
          · replace h := zb_f c11 h
            refine lv_aload_n hx hb zd_Mo_best_54 rfl (lv_at hl 0 rfl) ?_
            obtain ⟨b13, e12, h⟩ := zb_o h
            refine za_getr hx hb hts hown hK hI zl_Mo_92 e12 zd_Mo_best_55 ?_
            refine lv_iload hx hb zd_Mo_best_58 (lv_at hl 5 rfl) ?_
            obtain ⟨v14, e15, h⟩ := zb_o h
            refine za_iald hx hb hK hI e15 zd_Mo_best_60 ?_
            refine lv_iload_n hx hb zd_Mo_best_61 rfl (lv_at hl 3 rfl) ?_
            refine lv_icmp_lt hx hb (tgt := 69) zd_Mo_best_62 (by decide) (fun c16 => ?_) (fun c16 => ?_)
            · replace h := zb_t c16 h
              exact B69 _ ih _ _ ls a0 x1 x2 x3 x4 x5 σ hI (lv_sub hl [0, 1, 2, 3, 4, 5] rfl) h
            · replace h := zb_f c16 h
              exact B65 _ ih _ _ ls a0 x1 x2 x3 x4 x5 σ hI (lv_sub hl [0, 1, 2, 3, 4, 5] rfl) h
          · replace h := zb_t c11 h
            refine lv_aload_n hx hb zd_Mo_best_40 rfl (lv_at hl 0 rfl) ?_
            obtain ⟨b18, e17, h⟩ := zb_o h
            refine za_getr hx hb hts hown hK hI zl_Mo_92 e17 zd_Mo_best_41 ?_
            refine lv_iload hx hb zd_Mo_best_44 (lv_at hl 5 rfl) ?_
            obtain ⟨v19, e20, h⟩ := zb_o h
            refine za_iald hx hb hK hI e20 zd_Mo_best_46 ?_
            refine lv_iload_n hx hb zd_Mo_best_47 rfl (lv_at hl 3 rfl) ?_
            refine lv_icmp_gt hx hb (tgt := 69) zd_Mo_best_48 (by decide) (fun c21 => ?_) (fun c21 => ?_)
            · replace h := zb_t c21 h
              exact B69 _ ih _ _ ls a0 x1 x2 x3 x4 x5 σ hI (lv_sub hl [0, 1, 2, 3, 4, 5] rfl) h
            · replace h := zb_f c21 h
              refine lv_goto hx hb (tgt := 65) zd_Mo_best_51 (by decide) ?_
              exact B65 _ ih _ _ ls a0 x1 x2 x3 x4 x5 σ hI (lv_sub hl [0, 1, 2, 3, 4, 5] rfl) h
  unfold zf_Mo_best at h
  refine lv_iconst (v := -1) hx hb zd_Mo_best_0 (by decide) ?_
  refine lv_istore (lv' := [(4, .int (-1)), (0, .ref ay0), (1, .int xy1), (2, .int xy2), (3, .int xy3)]) hx hb zd_Mo_best_1 hl (Nat.le_of_ble_eq_true rfl) rfl (fun ls hl => ?_)
  refine lv_bipush (v := nI 9) hx hb zd_Mo_best_3 (by decide) ?_
  refine lv_iload_n hx hb zd_Mo_best_5 rfl (lv_at hl 2 rfl) ?_
  refine lv_imul hx hb zd_Mo_best_6 ?_
  refine lv_istore (lv' := [(5, .int ((nI 9) * xy1)), (4, .int (-1)), (0, .ref ay0), (1, .int xy1), (2, .int xy2), (3, .int xy3)]) hx hb zd_Mo_best_7 hl (Nat.le_of_ble_eq_true rfl) rfl (fun ls hl => ?_)
  exact B9 10 _ _ ls ay0 xy1 xy2 xy3 (-1) ((nI 9) * xy1) σ hI (lv_sub hl [2, 3, 4, 5, 1, 0] rfl) h

def zf_Mo_cross_164 (a0 : Nat) (x3 : Int32) (x7 : Int32) (x8 : Int32) (xs0 : Int32) (σ : za_h) : Option (Int32 × za_h) :=
  (zg_r σ a0 10 26).bind fun b2 =>
  (za_ld σ b2 0 x7).bind fun v3 =>
  (zg_r σ a0 10 30).bind fun b6 =>
  (za_ld σ b6 0 x3).bind fun v7 =>
  (za_st σ b2 0 x7 (v3 - (xs0 * v7))).bind fun σ9 =>
  (zg_r σ9 a0 10 26).bind fun b12 =>
  (za_ld σ9 b12 0 (x7 + (nI 1))).bind fun v13 =>
  (za_st σ9 b12 0 (x7 + (nI 1)) (v13 + xs0)).bind fun σ15 =>
  (zg_r σ15 a0 10 26).bind fun b18 =>
  (za_ld σ15 b18 0 x8).bind fun v19 =>
  (za_st σ15 b18 0 x8 (v19 - xs0)).bind fun σ21 =>
  (zg_r σ21 a0 10 26).bind fun b24 =>
  (za_ld σ21 b24 0 (x8 - (nI 1))).bind fun v25 =>
  (zg_r σ21 a0 10 30).bind fun b28 =>
  (za_ld σ21 b28 0 x3).bind fun v29 =>
  (za_st σ21 b24 0 (x8 - (nI 1)) (v25 + (xs0 * v29))).bind fun σ31 =>
  (zg_r σ31 a0 10 31).bind fun b34 =>
  (za_ld σ31 b34 0 x3).bind fun v35 =>
  (za_st σ31 b34 0 x3 (v35 - xs0)).bind fun σ37 =>
  some (xs0, σ37)

def zf_Mo_cross_124 (a0 : Nat) (x3 : Int32) (x7 : Int32) (x8 : Int32) (xs0 : Int32) (σ : za_h) : Option (Int32 × za_h) :=
  (zg_r σ a0 10 26).bind fun b2 =>
  (za_ld σ b2 0 x7).bind fun v3 =>
  (zg_r σ a0 10 30).bind fun b6 =>
  (za_ld σ b6 0 x3).bind fun v7 =>
  if v7 = 0 then none else
  if xs0 ≤ (v3 / v7) then
  (zf_Mo_cross_164 a0 x3 x7 x8 xs0 σ)
  else
  ((zg_r σ a0 10 26).bind fun b12 =>
  (za_ld σ b12 0 x7).bind fun v13 =>
  (zg_r σ a0 10 30).bind fun b16 =>
  (za_ld σ b16 0 x3).bind fun v17 =>
  if v17 = 0 then none else
  zf_Mo_cross_164 a0 x3 x7 x8 (v13 / v17) σ)

def zf_Mo_cross_98 (a0 : Nat) (x3 : Int32) (x7 : Int32) (x8 : Int32) (xs0 : Int32) (σ : za_h) : Option (Int32 × za_h) :=
  (zg_r σ a0 10 26).bind fun b2 =>
  (za_ld σ b2 0 x8).bind fun v3 =>
  if xs0 ≤ v3 then
  (zf_Mo_cross_124 a0 x3 x7 x8 xs0 σ)
  else
  ((zg_r σ a0 10 26).bind fun b7 =>
  (za_ld σ b7 0 x8).bind fun v8 =>
  zf_Mo_cross_124 a0 x3 x7 x8 v8 σ)

def zf_Mo_cross_50 (a0 : Nat) (x1 : Int32) (x3 : Int32) (x4 : Int32) (x5 : Int32) (xs0 : Int32) (σ : za_h) : Option (Int32 × za_h) :=
  (zg_r σ a0 10 31).bind fun b2 =>
  (za_ld σ b2 0 x3).bind fun v3 =>
  if v3 ≤ x4 then
  ((zg_r σ a0 10 31).bind fun b7 =>
  (za_ld σ b7 0 x3).bind fun v8 =>
  zf_Mo_cross_98 a0 x3 (((nI 8) * x1) + ((nI 2) * x5)) ((((nI 8) * x1) + ((nI 2) * xs0)) + (nI 1)) v8 σ)
  else
  (zf_Mo_cross_98 a0 x3 (((nI 8) * x1) + ((nI 2) * x5)) ((((nI 8) * x1) + ((nI 2) * xs0)) + (nI 1)) x4 σ)

def zf_Mo_cross_24 (a0 : Nat) (x1 : Int32) (x2 : Int32) (x3 : Int32) (x4 : Int32) (xs0 : Int32) (σ : za_h) : Option (Int32 × za_h) :=
  (zg_r σ a0 10 29).bind fun b2 =>
  (za_ld σ b2 0 x3).bind fun v3 =>
  if v3 = 0 then
  ((zg_r σ a0 10 22).bind fun b11 =>
  (za_ld σ b11 0 x2).bind fun v12 =>
  zf_Mo_cross_50 a0 x1 x3 x4 xs0 v12 σ)
  else
  ((zg_r σ a0 10 28).bind fun b7 =>
  (za_ld σ b7 0 x3).bind fun v8 =>
  zf_Mo_cross_50 a0 x1 x3 x4 xs0 v8 σ)

def zf_Mo_cross (ay0 : Nat) (xy1 : Int32) (xy2 : Int32) (xy3 : Int32) (xy4 : Int32) (σ : za_h) : Option (Int32 × za_h) :=
  (zg_r σ ay0 10 29).bind fun b2 =>
  (za_ld σ b2 0 xy3).bind fun v3 =>
  if v3 = 0 then
  ((zg_r σ ay0 10 28).bind fun b11 =>
  (za_ld σ b11 0 xy3).bind fun v12 =>
  zf_Mo_cross_24 ay0 xy1 xy2 xy3 xy4 v12 σ)
  else
  ((zg_r σ ay0 10 22).bind fun b7 =>
  (za_ld σ b7 0 xy2).bind fun v8 =>
  zf_Mo_cross_24 ay0 xy1 xy2 xy3 xy4 v8 σ)
set_option maxRecDepth 100000 in
set_option maxHeartbeats 4000000 in
theorem zm_Mo_cross {l : Launch} {D : va_G} {ca : Nat → ClassId} {n0 : Nat} {ay0 : Nat} {xy1 : Int32} {xy2 : Int32} {xy3 : Int32} {xy4 : Int32} {σ σ' : za_h} {r : Int32} (h : zf_Mo_cross ay0 xy1 xy2 xy3 xy4 σ = some (r, σ')) : Met l zy_Mo_cross (za_wy zy_Mo_cross zc_Mo_cross 10 (some .int)) { frames := 0, cells := 0, slots := 0, locals := 0 } (za_Pc D ca n0 [.ref ay0, .int xy1, .int xy2, .int xy3, .int xy4] σ) (za_Qi D ca n0 r σ') 0 0 (za_A n0) := by
  refine za_met (by decide) (Nat.le_of_ble_eq_true rfl) ?_
  intro p e s m below meth c ls hx hb hml hr hlk hts hown hnm hK hI hl
  replace hown : s.vm.findClass zR_Mo = some m.cls := hown
  replace hl : lv_has ls 10 [(0, .ref ay0), (1, .int xy1), (2, .int xy2), (3, .int xy3), (4, .int xy4)] := hl
  have B164 : ∀ (H : Heap) (locs : List Loc) (ls : Array Slot) (a0 : Nat) (x3 : Int32) (x7 : Int32) (x8 : Int32) (xs0 : Int32) (σ : za_h), za_I D ca n0 s σ H locs → lv_has ls 10 [(0, .ref a0), (3, .int x3), (7, .int x7), (8, .int x8)] → zf_Mo_cross_164 a0 x3 x7 x8 xs0 σ = some (r, σ') → W p l e ({ frames := 0, cells := 0, slots := 0, locals := 0 }) s m ([.ref ay0, .int xy1, .int xy2, .int xy3, .int xy4] : List Value).toArray below meth c H locs 0 0 (MQ below (za_Qi D ca n0 r σ') ([.ref ay0, .int xy1, .int xy2, .int xy3, .int xy4] : List Value).toArray s 0 0 (za_A n0)) (F0 m 164 ls [.int xs0]) := by
    intro H locs ls a0 x3 x7 x8 xs0 σ hI hl h
    unfold zf_Mo_cross_164 at h
    refine lv_istore (lv' := [(9, .int xs0), (0, .ref a0), (3, .int x3), (7, .int x7), (8, .int x8)]) hx hb zd_Mo_cross_164 hl (Nat.le_of_ble_eq_true rfl) rfl (fun ls hl => ?_)
    refine lv_aload_n hx hb zd_Mo_cross_166 rfl (lv_at hl 1 rfl) ?_
    obtain ⟨b2, e1, h⟩ := zb_o h
    refine za_getr hx hb hts hown hK hI zl_Mo_80 e1 zd_Mo_cross_167 ?_
    refine lv_iload hx hb zd_Mo_cross_170 (lv_at hl 3 rfl) ?_
    refine lv_dup2_11 hx hb zd_Mo_cross_172 rfl rfl ?_
    obtain ⟨v3, e4, h⟩ := zb_o h
    refine za_iald hx hb hK hI e4 zd_Mo_cross_173 ?_
    refine lv_iload hx hb zd_Mo_cross_174 (lv_at hl 0 rfl) ?_
    refine lv_aload_n hx hb zd_Mo_cross_176 rfl (lv_at hl 1 rfl) ?_
    obtain ⟨b6, e5, h⟩ := zb_o h
    refine za_getr hx hb hts hown hK hI zl_Mo_92 e5 zd_Mo_cross_177 ?_
    refine lv_iload_n hx hb zd_Mo_cross_180 rfl (lv_at hl 2 rfl) ?_
    obtain ⟨v7, e8, h⟩ := zb_o h
    refine za_iald hx hb hK hI e8 zd_Mo_cross_181 ?_
    refine lv_imul hx hb zd_Mo_cross_182 ?_
    refine lv_isub hx hb zd_Mo_cross_183 ?_
    obtain ⟨σ9, e10, h⟩ := zb_o h
    refine za_iast hx hb hK hI e10 zd_Mo_cross_184 (fun H locs hI => ?_)
    refine lv_aload_n hx hb zd_Mo_cross_185 rfl (lv_at hl 1 rfl) ?_
    obtain ⟨b12, e11, h⟩ := zb_o h
    refine za_getr hx hb hts hown hK hI zl_Mo_80 e11 zd_Mo_cross_186 ?_
    refine lv_iload hx hb zd_Mo_cross_189 (lv_at hl 3 rfl) ?_
    refine lv_iconst (v := nI 1) hx hb zd_Mo_cross_191 (by decide) ?_
    refine lv_iadd hx hb zd_Mo_cross_192 ?_
    refine lv_dup2_11 hx hb zd_Mo_cross_193 rfl rfl ?_
    obtain ⟨v13, e14, h⟩ := zb_o h
    refine za_iald hx hb hK hI e14 zd_Mo_cross_194 ?_
    refine lv_iload hx hb zd_Mo_cross_195 (lv_at hl 0 rfl) ?_
    refine lv_iadd hx hb zd_Mo_cross_197 ?_
    obtain ⟨σ15, e16, h⟩ := zb_o h
    refine za_iast hx hb hK hI e16 zd_Mo_cross_198 (fun H locs hI => ?_)
    refine lv_aload_n hx hb zd_Mo_cross_199 rfl (lv_at hl 1 rfl) ?_
    obtain ⟨b18, e17, h⟩ := zb_o h
    refine za_getr hx hb hts hown hK hI zl_Mo_80 e17 zd_Mo_cross_200 ?_
    refine lv_iload hx hb zd_Mo_cross_203 (lv_at hl 4 rfl) ?_
    refine lv_dup2_11 hx hb zd_Mo_cross_205 rfl rfl ?_
    obtain ⟨v19, e20, h⟩ := zb_o h
    refine za_iald hx hb hK hI e20 zd_Mo_cross_206 ?_
    refine lv_iload hx hb zd_Mo_cross_207 (lv_at hl 0 rfl) ?_
    refine lv_isub hx hb zd_Mo_cross_209 ?_
    obtain ⟨σ21, e22, h⟩ := zb_o h
    refine za_iast hx hb hK hI e22 zd_Mo_cross_210 (fun H locs hI => ?_)
    refine lv_aload_n hx hb zd_Mo_cross_211 rfl (lv_at hl 1 rfl) ?_
    obtain ⟨b24, e23, h⟩ := zb_o h
    refine za_getr hx hb hts hown hK hI zl_Mo_80 e23 zd_Mo_cross_212 ?_
    refine lv_iload hx hb zd_Mo_cross_215 (lv_at hl 4 rfl) ?_
    refine lv_iconst (v := nI 1) hx hb zd_Mo_cross_217 (by decide) ?_
    refine lv_isub hx hb zd_Mo_cross_218 ?_
    refine lv_dup2_11 hx hb zd_Mo_cross_219 rfl rfl ?_
    obtain ⟨v25, e26, h⟩ := zb_o h
    refine za_iald hx hb hK hI e26 zd_Mo_cross_220 ?_
    refine lv_iload hx hb zd_Mo_cross_221 (lv_at hl 0 rfl) ?_
    refine lv_aload_n hx hb zd_Mo_cross_223 rfl (lv_at hl 1 rfl) ?_
    obtain ⟨b28, e27, h⟩ := zb_o h
    refine za_getr hx hb hts hown hK hI zl_Mo_92 e27 zd_Mo_cross_224 ?_
    refine lv_iload_n hx hb zd_Mo_cross_227 rfl (lv_at hl 2 rfl) ?_
    obtain ⟨v29, e30, h⟩ := zb_o h
    refine za_iald hx hb hK hI e30 zd_Mo_cross_228 ?_
    refine lv_imul hx hb zd_Mo_cross_229 ?_
    refine lv_iadd hx hb zd_Mo_cross_230 ?_
    obtain ⟨σ31, e32, h⟩ := zb_o h
    refine za_iast hx hb hK hI e32 zd_Mo_cross_231 (fun H locs hI => ?_)
    refine lv_aload_n hx hb zd_Mo_cross_232 rfl (lv_at hl 1 rfl) ?_
    obtain ⟨b34, e33, h⟩ := zb_o h
    refine za_getr hx hb hts hown hK hI zl_Mo_95 e33 zd_Mo_cross_233 ?_
    refine lv_iload_n hx hb zd_Mo_cross_236 rfl (lv_at hl 2 rfl) ?_
    refine lv_dup2_11 hx hb zd_Mo_cross_237 rfl rfl ?_
    obtain ⟨v35, e36, h⟩ := zb_o h
    refine za_iald hx hb hK hI e36 zd_Mo_cross_238 ?_
    refine lv_iload hx hb zd_Mo_cross_239 (lv_at hl 0 rfl) ?_
    refine lv_isub hx hb zd_Mo_cross_241 ?_
    obtain ⟨σ37, e38, h⟩ := zb_o h
    refine za_iast hx hb hK hI e38 zd_Mo_cross_242 (fun H locs hI => ?_)
    refine lv_iload hx hb zd_Mo_cross_243 (lv_at hl 0 rfl) ?_
    exact za_iret hx hb hr hlk hI h (Nat.le_of_ble_eq_true rfl) (Nat.le_of_ble_eq_true rfl) zd_Mo_cross_245
  have B124 : ∀ (H : Heap) (locs : List Loc) (ls : Array Slot) (a0 : Nat) (x3 : Int32) (x7 : Int32) (x8 : Int32) (xs0 : Int32) (σ : za_h), za_I D ca n0 s σ H locs → lv_has ls 10 [(0, .ref a0), (3, .int x3), (7, .int x7), (8, .int x8)] → zf_Mo_cross_124 a0 x3 x7 x8 xs0 σ = some (r, σ') → W p l e ({ frames := 0, cells := 0, slots := 0, locals := 0 }) s m ([.ref ay0, .int xy1, .int xy2, .int xy3, .int xy4] : List Value).toArray below meth c H locs 0 0 (MQ below (za_Qi D ca n0 r σ') ([.ref ay0, .int xy1, .int xy2, .int xy3, .int xy4] : List Value).toArray s 0 0 (za_A n0)) (F0 m 124 ls [.int xs0]) := by
    intro H locs ls a0 x3 x7 x8 xs0 σ hI hl h
    unfold zf_Mo_cross_124 at h
    refine lv_istore (lv' := [(9, .int xs0), (0, .ref a0), (3, .int x3), (7, .int x7), (8, .int x8)]) hx hb zd_Mo_cross_124 hl (Nat.le_of_ble_eq_true rfl) rfl (fun ls hl => ?_)
    refine lv_aload_n hx hb zd_Mo_cross_126 rfl (lv_at hl 1 rfl) ?_
    obtain ⟨b2, e1, h⟩ := zb_o h
    refine za_getr hx hb hts hown hK hI zl_Mo_80 e1 zd_Mo_cross_127 ?_
    refine lv_iload hx hb zd_Mo_cross_130 (lv_at hl 3 rfl) ?_
    obtain ⟨v3, e4, h⟩ := zb_o h
    refine za_iald hx hb hK hI e4 zd_Mo_cross_132 ?_
    refine lv_aload_n hx hb zd_Mo_cross_133 rfl (lv_at hl 1 rfl) ?_
    obtain ⟨b6, e5, h⟩ := zb_o h
    refine za_getr hx hb hts hown hK hI zl_Mo_92 e5 zd_Mo_cross_134 ?_
    refine lv_iload_n hx hb zd_Mo_cross_137 rfl (lv_at hl 2 rfl) ?_
    obtain ⟨v7, e8, h⟩ := zb_o h
    refine za_iald hx hb hK hI e8 zd_Mo_cross_138 ?_
    by_cases g9 : v7 = 0
    · exact absurd (zb_t g9 h) (by intro q; cases q)
    replace h := zb_f g9 h
    refine lv_idiv hx hb zd_Mo_cross_139 g9 ?_
    refine lv_iload hx hb zd_Mo_cross_140 (lv_at hl 0 rfl) ?_
    refine lv_icmp_ge hx hb (tgt := 162) zd_Mo_cross_142 (by decide) (fun c10 => ?_) (fun c10 => ?_)
    · replace h := zb_t c10 h
      refine lv_iload hx hb zd_Mo_cross_162 (lv_at hl 0 rfl) ?_
      exact B164 _ _ ls a0 x3 x7 x8 xs0 σ hI (lv_sub hl [1, 2, 3, 4] rfl) h
    · replace h := zb_f c10 h
      refine lv_aload_n hx hb zd_Mo_cross_145 rfl (lv_at hl 1 rfl) ?_
      obtain ⟨b12, e11, h⟩ := zb_o h
      refine za_getr hx hb hts hown hK hI zl_Mo_80 e11 zd_Mo_cross_146 ?_
      refine lv_iload hx hb zd_Mo_cross_149 (lv_at hl 3 rfl) ?_
      obtain ⟨v13, e14, h⟩ := zb_o h
      refine za_iald hx hb hK hI e14 zd_Mo_cross_151 ?_
      refine lv_aload_n hx hb zd_Mo_cross_152 rfl (lv_at hl 1 rfl) ?_
      obtain ⟨b16, e15, h⟩ := zb_o h
      refine za_getr hx hb hts hown hK hI zl_Mo_92 e15 zd_Mo_cross_153 ?_
      refine lv_iload_n hx hb zd_Mo_cross_156 rfl (lv_at hl 2 rfl) ?_
      obtain ⟨v17, e18, h⟩ := zb_o h
      refine za_iald hx hb hK hI e18 zd_Mo_cross_157 ?_
      by_cases g19 : v17 = 0
      · exact absurd (zb_t g19 h) (by intro q; cases q)
      replace h := zb_f g19 h
      refine lv_idiv hx hb zd_Mo_cross_158 g19 ?_
      refine lv_goto hx hb (tgt := 164) zd_Mo_cross_159 (by decide) ?_
      exact B164 _ _ ls a0 x3 x7 x8 (v13 / v17) σ hI (lv_sub hl [1, 2, 3, 4] rfl) h
  have B98 : ∀ (H : Heap) (locs : List Loc) (ls : Array Slot) (a0 : Nat) (x3 : Int32) (x7 : Int32) (x8 : Int32) (xs0 : Int32) (σ : za_h), za_I D ca n0 s σ H locs → lv_has ls 10 [(0, .ref a0), (3, .int x3), (7, .int x7), (8, .int x8)] → zf_Mo_cross_98 a0 x3 x7 x8 xs0 σ = some (r, σ') → W p l e ({ frames := 0, cells := 0, slots := 0, locals := 0 }) s m ([.ref ay0, .int xy1, .int xy2, .int xy3, .int xy4] : List Value).toArray below meth c H locs 0 0 (MQ below (za_Qi D ca n0 r σ') ([.ref ay0, .int xy1, .int xy2, .int xy3, .int xy4] : List Value).toArray s 0 0 (za_A n0)) (F0 m 98 ls [.int xs0]) := by
    intro H locs ls a0 x3 x7 x8 xs0 σ hI hl h
    unfold zf_Mo_cross_98 at h
    refine lv_istore (lv' := [(9, .int xs0), (0, .ref a0), (3, .int x3), (7, .int x7), (8, .int x8)]) hx hb zd_Mo_cross_98 hl (Nat.le_of_ble_eq_true rfl) rfl (fun ls hl => ?_)
    refine lv_aload_n hx hb zd_Mo_cross_100 rfl (lv_at hl 1 rfl) ?_
    obtain ⟨b2, e1, h⟩ := zb_o h
    refine za_getr hx hb hts hown hK hI zl_Mo_80 e1 zd_Mo_cross_101 ?_
    refine lv_iload hx hb zd_Mo_cross_104 (lv_at hl 4 rfl) ?_
    obtain ⟨v3, e4, h⟩ := zb_o h
    refine za_iald hx hb hK hI e4 zd_Mo_cross_106 ?_
    refine lv_iload hx hb zd_Mo_cross_107 (lv_at hl 0 rfl) ?_
    refine lv_icmp_ge hx hb (tgt := 122) zd_Mo_cross_109 (by decide) (fun c5 => ?_) (fun c5 => ?_)
    · replace h := zb_t c5 h
      refine lv_iload hx hb zd_Mo_cross_122 (lv_at hl 0 rfl) ?_
      exact B124 _ _ ls a0 x3 x7 x8 xs0 σ hI (lv_sub hl [1, 2, 3, 4] rfl) h
    · replace h := zb_f c5 h
      refine lv_aload_n hx hb zd_Mo_cross_112 rfl (lv_at hl 1 rfl) ?_
      obtain ⟨b7, e6, h⟩ := zb_o h
      refine za_getr hx hb hts hown hK hI zl_Mo_80 e6 zd_Mo_cross_113 ?_
      refine lv_iload hx hb zd_Mo_cross_116 (lv_at hl 4 rfl) ?_
      obtain ⟨v8, e9, h⟩ := zb_o h
      refine za_iald hx hb hK hI e9 zd_Mo_cross_118 ?_
      refine lv_goto hx hb (tgt := 124) zd_Mo_cross_119 (by decide) ?_
      exact B124 _ _ ls a0 x3 x7 x8 v8 σ hI (lv_sub hl [1, 2, 3, 4] rfl) h
  have B50 : ∀ (H : Heap) (locs : List Loc) (ls : Array Slot) (a0 : Nat) (x1 : Int32) (x3 : Int32) (x4 : Int32) (x5 : Int32) (xs0 : Int32) (σ : za_h), za_I D ca n0 s σ H locs → lv_has ls 10 [(0, .ref a0), (1, .int x1), (3, .int x3), (4, .int x4), (5, .int x5)] → zf_Mo_cross_50 a0 x1 x3 x4 x5 xs0 σ = some (r, σ') → W p l e ({ frames := 0, cells := 0, slots := 0, locals := 0 }) s m ([.ref ay0, .int xy1, .int xy2, .int xy3, .int xy4] : List Value).toArray below meth c H locs 0 0 (MQ below (za_Qi D ca n0 r σ') ([.ref ay0, .int xy1, .int xy2, .int xy3, .int xy4] : List Value).toArray s 0 0 (za_A n0)) (F0 m 50 ls [.int xs0]) := by
    intro H locs ls a0 x1 x3 x4 x5 xs0 σ hI hl h
    unfold zf_Mo_cross_50 at h
    refine lv_istore (lv' := [(6, .int xs0), (0, .ref a0), (1, .int x1), (3, .int x3), (4, .int x4), (5, .int x5)]) hx hb zd_Mo_cross_50 hl (Nat.le_of_ble_eq_true rfl) rfl (fun ls hl => ?_)
    refine lv_bipush (v := nI 8) hx hb zd_Mo_cross_52 (by decide) ?_
    refine lv_iload_n hx hb zd_Mo_cross_54 rfl (lv_at hl 2 rfl) ?_
    refine lv_imul hx hb zd_Mo_cross_55 ?_
    refine lv_iconst (v := nI 2) hx hb zd_Mo_cross_56 (by decide) ?_
    refine lv_iload hx hb zd_Mo_cross_57 (lv_at hl 5 rfl) ?_
    refine lv_imul hx hb zd_Mo_cross_59 ?_
    refine lv_iadd hx hb zd_Mo_cross_60 ?_
    refine lv_istore (lv' := [(7, .int (((nI 8) * x1) + ((nI 2) * x5))), (6, .int xs0), (0, .ref a0), (1, .int x1), (3, .int x3), (4, .int x4), (5, .int x5)]) hx hb zd_Mo_cross_61 hl (Nat.le_of_ble_eq_true rfl) rfl (fun ls hl => ?_)
    refine lv_bipush (v := nI 8) hx hb zd_Mo_cross_63 (by decide) ?_
    refine lv_iload_n hx hb zd_Mo_cross_65 rfl (lv_at hl 3 rfl) ?_
    refine lv_imul hx hb zd_Mo_cross_66 ?_
    refine lv_iconst (v := nI 2) hx hb zd_Mo_cross_67 (by decide) ?_
    refine lv_iload hx hb zd_Mo_cross_68 (lv_at hl 1 rfl) ?_
    refine lv_imul hx hb zd_Mo_cross_70 ?_
    refine lv_iadd hx hb zd_Mo_cross_71 ?_
    refine lv_iconst (v := nI 1) hx hb zd_Mo_cross_72 (by decide) ?_
    refine lv_iadd hx hb zd_Mo_cross_73 ?_
    refine lv_istore (lv' := [(8, .int ((((nI 8) * x1) + ((nI 2) * xs0)) + (nI 1))), (7, .int (((nI 8) * x1) + ((nI 2) * x5))), (6, .int xs0), (0, .ref a0), (1, .int x1), (3, .int x3), (4, .int x4), (5, .int x5)]) hx hb zd_Mo_cross_74 hl (Nat.le_of_ble_eq_true rfl) rfl (fun ls hl => ?_)
    refine lv_iload hx hb zd_Mo_cross_76 (lv_at hl 6 rfl) ?_
    refine lv_aload_n hx hb zd_Mo_cross_78 rfl (lv_at hl 3 rfl) ?_
    obtain ⟨b2, e1, h⟩ := zb_o h
    refine za_getr hx hb hts hown hK hI zl_Mo_95 e1 zd_Mo_cross_79 ?_
    refine lv_iload_n hx hb zd_Mo_cross_82 rfl (lv_at hl 5 rfl) ?_
    obtain ⟨v3, e4, h⟩ := zb_o h
    refine za_iald hx hb hK hI e4 zd_Mo_cross_83 ?_
    refine lv_icmp_ge hx hb (tgt := 92) zd_Mo_cross_84 (by decide) (fun c5 => ?_) (fun c5 => ?_)
    · replace h := zb_t c5 h
      refine lv_aload_n hx hb zd_Mo_cross_92 rfl (lv_at hl 3 rfl) ?_
      obtain ⟨b7, e6, h⟩ := zb_o h
      refine za_getr hx hb hts hown hK hI zl_Mo_95 e6 zd_Mo_cross_93 ?_
      refine lv_iload_n hx hb zd_Mo_cross_96 rfl (lv_at hl 5 rfl) ?_
      obtain ⟨v8, e9, h⟩ := zb_o h
      refine za_iald hx hb hK hI e9 zd_Mo_cross_97 ?_
      exact B98 _ _ ls a0 x3 (((nI 8) * x1) + ((nI 2) * x5)) ((((nI 8) * x1) + ((nI 2) * xs0)) + (nI 1)) v8 σ hI (lv_sub hl [3, 5, 1, 0] rfl) h
    · replace h := zb_f c5 h
      refine lv_iload hx hb zd_Mo_cross_87 (lv_at hl 6 rfl) ?_
      refine lv_goto hx hb (tgt := 98) zd_Mo_cross_89 (by decide) ?_
      exact B98 _ _ ls a0 x3 (((nI 8) * x1) + ((nI 2) * x5)) ((((nI 8) * x1) + ((nI 2) * xs0)) + (nI 1)) x4 σ hI (lv_sub hl [3, 5, 1, 0] rfl) h
  have B24 : ∀ (H : Heap) (locs : List Loc) (ls : Array Slot) (a0 : Nat) (x1 : Int32) (x2 : Int32) (x3 : Int32) (x4 : Int32) (xs0 : Int32) (σ : za_h), za_I D ca n0 s σ H locs → lv_has ls 10 [(0, .ref a0), (1, .int x1), (2, .int x2), (3, .int x3), (4, .int x4)] → zf_Mo_cross_24 a0 x1 x2 x3 x4 xs0 σ = some (r, σ') → W p l e ({ frames := 0, cells := 0, slots := 0, locals := 0 }) s m ([.ref ay0, .int xy1, .int xy2, .int xy3, .int xy4] : List Value).toArray below meth c H locs 0 0 (MQ below (za_Qi D ca n0 r σ') ([.ref ay0, .int xy1, .int xy2, .int xy3, .int xy4] : List Value).toArray s 0 0 (za_A n0)) (F0 m 24 ls [.int xs0]) := by
    intro H locs ls a0 x1 x2 x3 x4 xs0 σ hI hl h
    unfold zf_Mo_cross_24 at h
    refine lv_istore (lv' := [(5, .int xs0), (0, .ref a0), (1, .int x1), (2, .int x2), (3, .int x3), (4, .int x4)]) hx hb zd_Mo_cross_24 hl (Nat.le_of_ble_eq_true rfl) rfl (fun ls hl => ?_)
    refine lv_aload_n hx hb zd_Mo_cross_26 rfl (lv_at hl 1 rfl) ?_
    obtain ⟨b2, e1, h⟩ := zb_o h
    refine za_getr hx hb hts hown hK hI zl_Mo_89 e1 zd_Mo_cross_27 ?_
    refine lv_iload_n hx hb zd_Mo_cross_30 rfl (lv_at hl 4 rfl) ?_
    obtain ⟨v3, e4, h⟩ := zb_o h
    refine za_iald hx hb hK hI e4 zd_Mo_cross_31 ?_
    refine lv_if_ne hx hb (tgt := 44) zd_Mo_cross_32 (by decide) (fun c5 => ?_) (fun c5 => ?_)
    · replace h := zb_f c5 h
      refine lv_aload_n hx hb zd_Mo_cross_44 rfl (lv_at hl 1 rfl) ?_
      obtain ⟨b7, e6, h⟩ := zb_o h
      refine za_getr hx hb hts hown hK hI zl_Mo_86 e6 zd_Mo_cross_45 ?_
      refine lv_iload_n hx hb zd_Mo_cross_48 rfl (lv_at hl 4 rfl) ?_
      obtain ⟨v8, e9, h⟩ := zb_o h
      refine za_iald hx hb hK hI e9 zd_Mo_cross_49 ?_
      exact B50 _ _ ls a0 x1 x3 x4 xs0 v8 σ hI (lv_sub hl [1, 2, 4, 5, 0] rfl) h
    · replace h := zb_t c5 h
      refine lv_aload_n hx hb zd_Mo_cross_35 rfl (lv_at hl 1 rfl) ?_
      obtain ⟨b11, e10, h⟩ := zb_o h
      refine za_getr hx hb hts hown hK hI zl_Mo_68 e10 zd_Mo_cross_36 ?_
      refine lv_iload_n hx hb zd_Mo_cross_39 rfl (lv_at hl 3 rfl) ?_
      obtain ⟨v12, e13, h⟩ := zb_o h
      refine za_iald hx hb hK hI e13 zd_Mo_cross_40 ?_
      refine lv_goto hx hb (tgt := 50) zd_Mo_cross_41 (by decide) ?_
      exact B50 _ _ ls a0 x1 x3 x4 xs0 v12 σ hI (lv_sub hl [1, 2, 4, 5, 0] rfl) h
  unfold zf_Mo_cross at h
  refine lv_aload_n hx hb zd_Mo_cross_0 rfl (lv_at hl 0 rfl) ?_
  obtain ⟨b2, e1, h⟩ := zb_o h
  refine za_getr hx hb hts hown hK hI zl_Mo_89 e1 zd_Mo_cross_1 ?_
  refine lv_iload_n hx hb zd_Mo_cross_4 rfl (lv_at hl 3 rfl) ?_
  obtain ⟨v3, e4, h⟩ := zb_o h
  refine za_iald hx hb hK hI e4 zd_Mo_cross_5 ?_
  refine lv_if_ne hx hb (tgt := 18) zd_Mo_cross_6 (by decide) (fun c5 => ?_) (fun c5 => ?_)
  · replace h := zb_f c5 h
    refine lv_aload_n hx hb zd_Mo_cross_18 rfl (lv_at hl 0 rfl) ?_
    obtain ⟨b7, e6, h⟩ := zb_o h
    refine za_getr hx hb hts hown hK hI zl_Mo_68 e6 zd_Mo_cross_19 ?_
    refine lv_iload_n hx hb zd_Mo_cross_22 rfl (lv_at hl 2 rfl) ?_
    obtain ⟨v8, e9, h⟩ := zb_o h
    refine za_iald hx hb hK hI e9 zd_Mo_cross_23 ?_
    exact B24 _ _ ls ay0 xy1 xy2 xy3 xy4 v8 σ hI (lv_sub hl [0, 1, 2, 3, 4] rfl) h
  · replace h := zb_t c5 h
    refine lv_aload_n hx hb zd_Mo_cross_9 rfl (lv_at hl 0 rfl) ?_
    obtain ⟨b11, e10, h⟩ := zb_o h
    refine za_getr hx hb hts hown hK hI zl_Mo_86 e10 zd_Mo_cross_10 ?_
    refine lv_iload_n hx hb zd_Mo_cross_13 rfl (lv_at hl 3 rfl) ?_
    obtain ⟨v12, e13, h⟩ := zb_o h
    refine za_iald hx hb hK hI e13 zd_Mo_cross_14 ?_
    refine lv_goto hx hb (tgt := 24) zd_Mo_cross_15 (by decide) ?_
    exact B24 _ _ ls ay0 xy1 xy2 xy3 xy4 v12 σ hI (lv_sub hl [0, 1, 2, 3, 4] rfl) h

def zf_Mo_remove_12 : Nat → Nat → Int32 → Int32 → za_h → Option (Unit × za_h)
  | 0, _, _, _, _ => none
  | n + 1, a0, x1, x3, σ =>
  (zg_r σ a0 10 27).bind fun b2 =>
  (za_ld σ b2 0 x1).bind fun v3 =>
  if (((nI 9) * x1) + v3) ≤ x3 then
  (some ((), σ))
  else
  ((zg_r σ a0 10 28).bind fun b7 =>
  (zg_r σ a0 10 28).bind fun b9 =>
  (za_ld σ b9 0 (x3 + (nI 1))).bind fun v10 =>
  (za_st σ b7 0 x3 v10).bind fun σ12 =>
  (zg_r σ12 a0 10 29).bind fun b15 =>
  (zg_r σ12 a0 10 29).bind fun b17 =>
  (za_ld σ12 b17 0 (x3 + (nI 1))).bind fun v18 =>
  (za_st σ12 b15 0 x3 v18).bind fun σ20 =>
  (zg_r σ20 a0 10 30).bind fun b23 =>
  (zg_r σ20 a0 10 30).bind fun b25 =>
  (za_ld σ20 b25 0 (x3 + (nI 1))).bind fun v26 =>
  (za_st σ20 b23 0 x3 v26).bind fun σ28 =>
  (zg_r σ28 a0 10 31).bind fun b31 =>
  (zg_r σ28 a0 10 31).bind fun b33 =>
  (za_ld σ28 b33 0 (x3 + (nI 1))).bind fun v34 =>
  (za_st σ28 b31 0 x3 v34).bind fun σ36 =>
  zf_Mo_remove_12 n a0 x1 (x3 + nI 1) σ36)

def zf_Mo_remove (ay0 : Nat) (xy1 : Int32) (xy2 : Int32) (σ : za_h) : Option (Unit × za_h) :=
  (zg_r σ ay0 10 27).bind fun b2 =>
  (za_ld σ b2 0 xy1).bind fun v3 =>
  (za_st σ b2 0 xy1 (v3 - (nI 1))).bind fun σ5 =>
  zf_Mo_remove_12 10 ay0 xy1 xy2 σ5
set_option maxRecDepth 100000 in
set_option maxHeartbeats 4000000 in
theorem zm_Mo_remove {l : Launch} {D : va_G} {ca : Nat → ClassId} {n0 : Nat} {ay0 : Nat} {xy1 : Int32} {xy2 : Int32} {σ σ' : za_h} {r : Unit} (h : zf_Mo_remove ay0 xy1 xy2 σ = some (r, σ')) : Met l zy_Mo_remove (za_wy zy_Mo_remove zc_Mo_remove 4 none) { frames := 0, cells := 0, slots := 0, locals := 0 } (za_Pc D ca n0 [.ref ay0, .int xy1, .int xy2] σ) (za_Qv D ca n0 r σ') 0 0 (za_A n0) := by
  refine za_met (by decide) (Nat.le_of_ble_eq_true rfl) ?_
  intro p e s m below meth c ls hx hb hml hr hlk hts hown hnm hK hI hl
  replace hown : s.vm.findClass zR_Mo = some m.cls := hown
  replace hl : lv_has ls 4 [(0, .ref ay0), (1, .int xy1), (2, .int xy2)] := hl
  have B12 : ∀ n : Nat, ∀ (H : Heap) (locs : List Loc) (ls : Array Slot) (a0 : Nat) (x1 : Int32) (x3 : Int32) (σ : za_h), za_I D ca n0 s σ H locs → lv_has ls 4 [(0, .ref a0), (1, .int x1), (3, .int x3)] → zf_Mo_remove_12 n a0 x1 x3 σ = some (r, σ') → W p l e ({ frames := 0, cells := 0, slots := 0, locals := 0 }) s m ([.ref ay0, .int xy1, .int xy2] : List Value).toArray below meth c H locs 0 0 (MQ below (za_Qv D ca n0 r σ') ([.ref ay0, .int xy1, .int xy2] : List Value).toArray s 0 0 (za_A n0)) (F0 m 12 ls []) := by
    intro n
    induction n with
    | zero => intro H locs ls a0 x1 x3 σ hI hl h; rw [zf_Mo_remove_12] at h; cases h
    | succ n ih =>
      intro H locs ls a0 x1 x3 σ hI hl h
      rw [zf_Mo_remove_12] at h
      refine lv_iload_n hx hb zd_Mo_remove_12 rfl (lv_at hl 2 rfl) ?_
      refine lv_bipush (v := nI 9) hx hb zd_Mo_remove_13 (by decide) ?_
      refine lv_iload_n hx hb zd_Mo_remove_15 rfl (lv_at hl 1 rfl) ?_
      refine lv_imul hx hb zd_Mo_remove_16 ?_
      refine lv_aload_n hx hb zd_Mo_remove_17 rfl (lv_at hl 0 rfl) ?_
      obtain ⟨b2, e1, h⟩ := zb_o h
      refine za_getr hx hb hts hown hK hI zl_Mo_83 e1 zd_Mo_remove_18 ?_
      refine lv_iload_n hx hb zd_Mo_remove_21 rfl (lv_at hl 1 rfl) ?_
      obtain ⟨v3, e4, h⟩ := zb_o h
      refine za_iald hx hb hK hI e4 zd_Mo_remove_22 ?_
      refine lv_iadd hx hb zd_Mo_remove_23 ?_
      refine lv_icmp_ge hx hb (tgt := 89) zd_Mo_remove_24 (by decide) (fun c5 => ?_) (fun c5 => ?_)
      · replace h := zb_t c5 h
        exact za_vret hx hb hr hlk hI h (Nat.le_of_ble_eq_true rfl) (Nat.le_of_ble_eq_true rfl) zd_Mo_remove_89
      · replace h := zb_f c5 h
        refine lv_aload_n hx hb zd_Mo_remove_27 rfl (lv_at hl 0 rfl) ?_
        obtain ⟨b7, e6, h⟩ := zb_o h
        refine za_getr hx hb hts hown hK hI zl_Mo_86 e6 zd_Mo_remove_28 ?_
        refine lv_iload_n hx hb zd_Mo_remove_31 rfl (lv_at hl 2 rfl) ?_
        refine lv_aload_n hx hb zd_Mo_remove_32 rfl (lv_at hl 0 rfl) ?_
        obtain ⟨b9, e8, h⟩ := zb_o h
        refine za_getr hx hb hts hown hK hI zl_Mo_86 e8 zd_Mo_remove_33 ?_
        refine lv_iload_n hx hb zd_Mo_remove_36 rfl (lv_at hl 2 rfl) ?_
        refine lv_iconst (v := nI 1) hx hb zd_Mo_remove_37 (by decide) ?_
        refine lv_iadd hx hb zd_Mo_remove_38 ?_
        obtain ⟨v10, e11, h⟩ := zb_o h
        refine za_iald hx hb hK hI e11 zd_Mo_remove_39 ?_
        obtain ⟨σ12, e13, h⟩ := zb_o h
        refine za_iast hx hb hK hI e13 zd_Mo_remove_40 (fun H locs hI => ?_)
        refine lv_aload_n hx hb zd_Mo_remove_41 rfl (lv_at hl 0 rfl) ?_
        obtain ⟨b15, e14, h⟩ := zb_o h
        refine za_getr hx hb hts hown hK hI zl_Mo_89 e14 zd_Mo_remove_42 ?_
        refine lv_iload_n hx hb zd_Mo_remove_45 rfl (lv_at hl 2 rfl) ?_
        refine lv_aload_n hx hb zd_Mo_remove_46 rfl (lv_at hl 0 rfl) ?_
        obtain ⟨b17, e16, h⟩ := zb_o h
        refine za_getr hx hb hts hown hK hI zl_Mo_89 e16 zd_Mo_remove_47 ?_
        refine lv_iload_n hx hb zd_Mo_remove_50 rfl (lv_at hl 2 rfl) ?_
        refine lv_iconst (v := nI 1) hx hb zd_Mo_remove_51 (by decide) ?_
        refine lv_iadd hx hb zd_Mo_remove_52 ?_
        obtain ⟨v18, e19, h⟩ := zb_o h
        refine za_iald hx hb hK hI e19 zd_Mo_remove_53 ?_
        obtain ⟨σ20, e21, h⟩ := zb_o h
        refine za_iast hx hb hK hI e21 zd_Mo_remove_54 (fun H locs hI => ?_)
        refine lv_aload_n hx hb zd_Mo_remove_55 rfl (lv_at hl 0 rfl) ?_
        obtain ⟨b23, e22, h⟩ := zb_o h
        refine za_getr hx hb hts hown hK hI zl_Mo_92 e22 zd_Mo_remove_56 ?_
        refine lv_iload_n hx hb zd_Mo_remove_59 rfl (lv_at hl 2 rfl) ?_
        refine lv_aload_n hx hb zd_Mo_remove_60 rfl (lv_at hl 0 rfl) ?_
        obtain ⟨b25, e24, h⟩ := zb_o h
        refine za_getr hx hb hts hown hK hI zl_Mo_92 e24 zd_Mo_remove_61 ?_
        refine lv_iload_n hx hb zd_Mo_remove_64 rfl (lv_at hl 2 rfl) ?_
        refine lv_iconst (v := nI 1) hx hb zd_Mo_remove_65 (by decide) ?_
        refine lv_iadd hx hb zd_Mo_remove_66 ?_
        obtain ⟨v26, e27, h⟩ := zb_o h
        refine za_iald hx hb hK hI e27 zd_Mo_remove_67 ?_
        obtain ⟨σ28, e29, h⟩ := zb_o h
        refine za_iast hx hb hK hI e29 zd_Mo_remove_68 (fun H locs hI => ?_)
        refine lv_aload_n hx hb zd_Mo_remove_69 rfl (lv_at hl 0 rfl) ?_
        obtain ⟨b31, e30, h⟩ := zb_o h
        refine za_getr hx hb hts hown hK hI zl_Mo_95 e30 zd_Mo_remove_70 ?_
        refine lv_iload_n hx hb zd_Mo_remove_73 rfl (lv_at hl 2 rfl) ?_
        refine lv_aload_n hx hb zd_Mo_remove_74 rfl (lv_at hl 0 rfl) ?_
        obtain ⟨b33, e32, h⟩ := zb_o h
        refine za_getr hx hb hts hown hK hI zl_Mo_95 e32 zd_Mo_remove_75 ?_
        refine lv_iload_n hx hb zd_Mo_remove_78 rfl (lv_at hl 2 rfl) ?_
        refine lv_iconst (v := nI 1) hx hb zd_Mo_remove_79 (by decide) ?_
        refine lv_iadd hx hb zd_Mo_remove_80 ?_
        obtain ⟨v34, e35, h⟩ := zb_o h
        refine za_iald hx hb hK hI e35 zd_Mo_remove_81 ?_
        obtain ⟨σ36, e37, h⟩ := zb_o h
        refine za_iast hx hb hK hI e37 zd_Mo_remove_82 (fun H locs hI => ?_)
        refine lv_iinc (k := 2) (v := (x3 + nI 1)) (lv' := [(3, .int (x3 + nI 1)), (0, .ref a0), (1, .int x1)]) hx hb zd_Mo_remove_83 hl rfl rfl (Nat.le_of_ble_eq_true rfl) rfl (fun ls hl => ?_)
        refine lv_goto hx hb (tgt := 12) zd_Mo_remove_86 (by decide) ?_
        exact ih _ _ ls a0 x1 (x3 + nI 1) σ36 hI (lv_sub hl [1, 2, 0] rfl) h
  unfold zf_Mo_remove at h
  refine lv_aload_n hx hb zd_Mo_remove_0 rfl (lv_at hl 0 rfl) ?_
  obtain ⟨b2, e1, h⟩ := zb_o h
  refine za_getr hx hb hts hown hK hI zl_Mo_83 e1 zd_Mo_remove_1 ?_
  refine lv_iload_n hx hb zd_Mo_remove_4 rfl (lv_at hl 1 rfl) ?_
  refine lv_dup2_11 hx hb zd_Mo_remove_5 rfl rfl ?_
  obtain ⟨v3, e4, h⟩ := zb_o h
  refine za_iald hx hb hK hI e4 zd_Mo_remove_6 ?_
  refine lv_iconst (v := nI 1) hx hb zd_Mo_remove_7 (by decide) ?_
  refine lv_isub hx hb zd_Mo_remove_8 ?_
  obtain ⟨σ5, e6, h⟩ := zb_o h
  refine za_iast hx hb hK hI e6 zd_Mo_remove_9 (fun H locs hI => ?_)
  refine lv_iload_n hx hb zd_Mo_remove_10 rfl (lv_at hl 2 rfl) ?_
  refine lv_istore_n (lv' := [(3, .int xy2), (0, .ref ay0), (1, .int xy1), (2, .int xy2)]) hx hb zd_Mo_remove_11 rfl hl (Nat.le_of_ble_eq_true rfl) rfl (fun ls hl => ?_)
  exact B12 10 _ _ ls ay0 xy1 xy2 σ5 hI (lv_sub hl [1, 2, 0] rfl) h

def zf_Mo_trade_290  (σ : za_h) : Option (Unit × za_h) :=
  some ((), σ)

def zf_Mo_trade_205 (a0 : Nat) (x1 : Int32) (x2 : Int32) (x3 : Int32) (σ : za_h) : Option (Unit × za_h) :=
  if x3 ≤ 0 then
  (zf_Mo_trade_290 σ)
  else
  ((zg_r σ a0 10 27).bind fun b3 =>
  (za_ld σ b3 0 x1).bind fun v4 =>
  if (nI 8) ≤ v4 then
  (zf_Mo_trade_290 σ)
  else
  ((zg_r σ a0 10 27).bind fun b8 =>
  (za_ld σ b8 0 x1).bind fun v9 =>
  (zg_r σ a0 10 28).bind fun b12 =>
  (zg_r σ a0 10 22).bind fun b14 =>
  (za_ld σ b14 0 x2).bind fun v15 =>
  (za_st σ b12 0 (((nI 9) * x1) + v9) v15).bind fun σ17 =>
  (zg_r σ17 a0 10 29).bind fun b20 =>
  (zg_r σ17 a0 10 23).bind fun b22 =>
  (za_ld σ17 b22 0 x2).bind fun v23 =>
  (za_st σ17 b20 0 (((nI 9) * x1) + v9) v23).bind fun σ25 =>
  (zg_r σ25 a0 10 30).bind fun b28 =>
  (zg_r σ25 a0 10 24).bind fun b30 =>
  (za_ld σ25 b30 0 x2).bind fun v31 =>
  (za_st σ25 b28 0 (((nI 9) * x1) + v9) v31).bind fun σ33 =>
  (zg_r σ33 a0 10 31).bind fun b36 =>
  (za_st σ33 b36 0 (((nI 9) * x1) + v9) x3).bind fun σ37 =>
  (zg_r σ37 a0 10 27).bind fun b40 =>
  (za_ld σ37 b40 0 x1).bind fun v41 =>
  (za_st σ37 b40 0 x1 (v41 + (nI 1))).bind fun σ43 =>
  zf_Mo_trade_290 σ43))

def zf_Mo_trade_199 (k13 : Nat → Int32 → Int32 → Int32 → Int32 → Int32 → za_h → Option (Unit × za_h)) (a0 : Nat) (x1 : Int32) (x2 : Int32) (x3 : Int32) (x4 : Int32) (x5 : Int32) (σ : za_h) : Option (Unit × za_h) :=
  k13 a0 x1 x2 x3 x4 (x5 + nI 1) σ

def zf_Mo_trade_54 (k13 : Nat → Int32 → Int32 → Int32 → Int32 → Int32 → za_h → Option (Unit × za_h)) (a0 : Nat) (x1 : Int32) (x2 : Int32) (x3 : Int32) (x5 : Int32) (σ : za_h) : Option (Unit × za_h) :=
  zf_Mo_trade_199 k13 a0 x1 x2 x3 (nI 0) x5 σ

def zf_Mo_trade_192 (k13 : Nat → Int32 → Int32 → Int32 → Int32 → Int32 → za_h → Option (Unit × za_h)) (a0 : Nat) (x1 : Int32) (x2 : Int32) (x3 : Int32) (x4 : Int32) (x5 : Int32) (x6 : Int32) (σ : za_h) : Option (Unit × za_h) :=
  (zg_c σ a0 10).bind fun _ =>
  (zf_Mo_remove a0 x1 x6 σ).bind fun (_, σ3) =>
  zf_Mo_trade_199 k13 a0 x1 x2 x3 x4 x5 σ3

def zf_Mo_trade_170 (k13 : Nat → Int32 → Int32 → Int32 → Int32 → Int32 → za_h → Option (Unit × za_h)) (a0 : Nat) (x1 : Int32) (x2 : Int32) (x3 : Int32) (x5 : Int32) (x6 : Int32) (x7 : Int32) (x8 : Int32) (xs0 : Int32) (σ : za_h) : Option (Unit × za_h) :=
  (zg_r σ a0 10 31).bind fun b2 =>
  (za_ld σ b2 0 x6).bind fun v3 =>
  if v3 = 0 then
  (zf_Mo_trade_192 k13 a0 x1 x2 x3 xs0 x5 x6 σ)
  else
  (if x7 = 0 then
  (if x8 = 0 then
  (zf_Mo_trade_199 k13 a0 x1 x2 x3 xs0 x5 σ)
  else
  (zf_Mo_trade_192 k13 a0 x1 x2 x3 xs0 x5 x6 σ))
  else
  (zf_Mo_trade_199 k13 a0 x1 x2 x3 xs0 x5 σ))

def zf_Mo_trade_165 (k13 : Nat → Int32 → Int32 → Int32 → Int32 → Int32 → za_h → Option (Unit × za_h)) (a0 : Nat) (x1 : Int32) (x2 : Int32) (x3 : Int32) (x5 : Int32) (x6 : Int32) (x7 : Int32) (x8 : Int32) (σ : za_h) : Option (Unit × za_h) :=
  zf_Mo_trade_170 k13 a0 x1 x2 x3 x5 x6 x7 x8 (nI 1) σ

def zf_Mo_trade_153 (k13 : Nat → Int32 → Int32 → Int32 → Int32 → Int32 → za_h → Option (Unit × za_h)) (a0 : Nat) (x1 : Int32) (x2 : Int32) (x3 : Int32) (x5 : Int32) (x6 : Int32) (x7 : Int32) (xs0 : Int32) (σ : za_h) : Option (Unit × za_h) :=
  if 0 < x7 then
  (zf_Mo_trade_165 k13 a0 x1 x2 x3 x5 x6 x7 xs0 σ)
  else
  (if xs0 = 0 then
  (zf_Mo_trade_170 k13 a0 x1 x2 x3 x5 x6 x7 xs0 (nI 0) σ)
  else
  (zf_Mo_trade_165 k13 a0 x1 x2 x3 x5 x6 x7 xs0 σ))

def zf_Mo_trade_13 : Nat → Nat → Int32 → Int32 → Int32 → Int32 → Int32 → za_h → Option (Unit × za_h)
  | 0, _, _, _, _, _, _, _ => none
  | n + 1, a0, x1, x2, x3, x4, x5, σ =>
  if (nI 1100) ≤ x5 then
  (zf_Mo_trade_205 a0 x1 x2 x3 σ)
  else
  (if x4 = 0 then
  (zf_Mo_trade_205 a0 x1 x2 x3 σ)
  else
  ((zg_r σ a0 10 23).bind fun b4 =>
  (za_ld σ b4 0 x2).bind fun v5 =>
  (zg_r σ a0 10 24).bind fun b8 =>
  (za_ld σ b8 0 x2).bind fun v9 =>
  (zg_c σ a0 10).bind fun _ =>
  (zf_Mo_best a0 x1 v5 v9 σ).bind fun (r12, σ13) =>
  if x3 = 0 then
  (zf_Mo_trade_54 (zf_Mo_trade_13 n) a0 x1 x2 x3 x5 σ13)
  else
  (if 0 ≤ r12 then
  ((zg_c σ13 a0 10).bind fun _ =>
  (zf_Mo_cross a0 x1 x2 r12 x3 σ13).bind fun (r18, σ19) =>
  (zg_r σ19 a0 10 29).bind fun b22 =>
  (za_ld σ19 b22 0 r12).bind fun v23 =>
  if v23 = (nI 1) then
  ((zg_r σ19 a0 10 26).bind fun b40 =>
  (zg_r σ19 a0 10 28).bind fun b42 =>
  (za_ld σ19 b42 0 r12).bind fun v43 =>
  (za_ld σ19 b40 0 ((((nI 8) * x1) + ((nI 2) * v43)) + (nI 1))).bind fun v45 =>
  if v45 = 0 then
  (zf_Mo_trade_153 (zf_Mo_trade_13 n) a0 x1 x2 (x3 - r18) x5 r12 r18 (nI 1) σ19)
  else
  (zf_Mo_trade_153 (zf_Mo_trade_13 n) a0 x1 x2 (x3 - r18) x5 r12 r18 (nI 0) σ19))
  else
  ((zg_r σ19 a0 10 26).bind fun b27 =>
  (zg_r σ19 a0 10 28).bind fun b29 =>
  (za_ld σ19 b29 0 r12).bind fun v30 =>
  (za_ld σ19 b27 0 (((nI 8) * x1) + ((nI 2) * v30))).bind fun v32 =>
  (zg_r σ19 a0 10 30).bind fun b35 =>
  (za_ld σ19 b35 0 r12).bind fun v36 =>
  if v36 ≤ v32 then
  (zf_Mo_trade_153 (zf_Mo_trade_13 n) a0 x1 x2 (x3 - r18) x5 r12 r18 (nI 0) σ19)
  else
  (zf_Mo_trade_153 (zf_Mo_trade_13 n) a0 x1 x2 (x3 - r18) x5 r12 r18 (nI 1) σ19)))
  else
  (zf_Mo_trade_54 (zf_Mo_trade_13 n) a0 x1 x2 x3 x5 σ13))))

def zf_Mo_trade (ay0 : Nat) (xy1 : Int32) (xy2 : Int32) (σ : za_h) : Option (Unit × za_h) :=
  (zg_r σ ay0 10 25).bind fun b2 =>
  (za_ld σ b2 0 xy2).bind fun v3 =>
  zf_Mo_trade_13 1101 ay0 xy1 xy2 v3 (nI 1) (nI 0) σ
set_option maxRecDepth 100000 in
set_option maxHeartbeats 4000000 in
theorem zm_Mo_trade {l : Launch} {D : va_G} {ca : Nat → ClassId} {n0 : Nat} {ay0 : Nat} {xy1 : Int32} {xy2 : Int32} {σ σ' : za_h} {r : Unit} (h : zf_Mo_trade ay0 xy1 xy2 σ = some (r, σ')) : Met l zy_Mo_trade (za_wy zy_Mo_trade zc_Mo_trade 9 none) { frames := 1, cells := 0, slots := 0, locals := 29 } (za_Pc D ca n0 [.ref ay0, .int xy1, .int xy2] σ) (za_Qv D ca n0 r σ') 0 0 (za_A n0) := by
  refine za_met (by decide) (Nat.le_of_ble_eq_true rfl) ?_
  intro p e s m below meth c ls hx hb hml hr hlk hts hown hnm hK hI hl
  replace hown : s.vm.findClass zR_Mo = some m.cls := hown
  replace hl : lv_has ls 9 [(0, .ref ay0), (1, .int xy1), (2, .int xy2)] := hl
  have B290 : ∀ (H : Heap) (locs : List Loc) (ls : Array Slot) (σ : za_h), za_I D ca n0 s σ H locs → lv_has ls 9 [] → zf_Mo_trade_290 σ = some (r, σ') → W p l e ({ frames := 1, cells := 0, slots := 0, locals := 29 }) s m ([.ref ay0, .int xy1, .int xy2] : List Value).toArray below meth c H locs 0 0 (MQ below (za_Qv D ca n0 r σ') ([.ref ay0, .int xy1, .int xy2] : List Value).toArray s 0 0 (za_A n0)) (F0 m 290 ls []) := by
    intro H locs ls σ hI hl h
    unfold zf_Mo_trade_290 at h
    exact za_vret hx hb hr hlk hI h (Nat.le_of_ble_eq_true rfl) (Nat.le_of_ble_eq_true rfl) zd_Mo_trade_290
  have B205 : ∀ (H : Heap) (locs : List Loc) (ls : Array Slot) (a0 : Nat) (x1 : Int32) (x2 : Int32) (x3 : Int32) (σ : za_h), za_I D ca n0 s σ H locs → lv_has ls 9 [(0, .ref a0), (1, .int x1), (2, .int x2), (3, .int x3)] → zf_Mo_trade_205 a0 x1 x2 x3 σ = some (r, σ') → W p l e ({ frames := 1, cells := 0, slots := 0, locals := 29 }) s m ([.ref ay0, .int xy1, .int xy2] : List Value).toArray below meth c H locs 0 0 (MQ below (za_Qv D ca n0 r σ') ([.ref ay0, .int xy1, .int xy2] : List Value).toArray s 0 0 (za_A n0)) (F0 m 205 ls []) := by
    intro H locs ls a0 x1 x2 x3 σ hI hl h
    unfold zf_Mo_trade_205 at h
    refine lv_iload_n hx hb zd_Mo_trade_205 rfl (lv_at hl 3 rfl) ?_
    refine lv_if_le hx hb (tgt := 290) zd_Mo_trade_206 (by decide) (fun c1 => ?_) (fun c1 => ?_)
    · replace h := zb_t c1 h
      exact B290 _ _ ls σ hI (lv_sub hl [] rfl) h
    · replace h := zb_f c1 h
      refine lv_aload_n hx hb zd_Mo_trade_209 rfl (lv_at hl 0 rfl) ?_
      obtain ⟨b3, e2, h⟩ := zb_o h
      refine za_getr hx hb hts hown hK hI zl_Mo_83 e2 zd_Mo_trade_210 ?_
      refine lv_iload_n hx hb zd_Mo_trade_213 rfl (lv_at hl 1 rfl) ?_
      obtain ⟨v4, e5, h⟩ := zb_o h
      refine za_iald hx hb hK hI e5 zd_Mo_trade_214 ?_
      refine lv_bipush (v := nI 8) hx hb zd_Mo_trade_215 (by decide) ?_
      refine lv_icmp_ge hx hb (tgt := 290) zd_Mo_trade_217 (by decide) (fun c6 => ?_) (fun c6 => ?_)
      · replace h := zb_t c6 h
        exact B290 _ _ ls σ hI (lv_sub hl [] rfl) h
      · replace h := zb_f c6 h
        refine lv_bipush (v := nI 9) hx hb zd_Mo_trade_220 (by decide) ?_
        refine lv_iload_n hx hb zd_Mo_trade_222 rfl (lv_at hl 1 rfl) ?_
        refine lv_imul hx hb zd_Mo_trade_223 ?_
        refine lv_aload_n hx hb zd_Mo_trade_224 rfl (lv_at hl 0 rfl) ?_
        obtain ⟨b8, e7, h⟩ := zb_o h
        refine za_getr hx hb hts hown hK hI zl_Mo_83 e7 zd_Mo_trade_225 ?_
        refine lv_iload_n hx hb zd_Mo_trade_228 rfl (lv_at hl 1 rfl) ?_
        obtain ⟨v9, e10, h⟩ := zb_o h
        refine za_iald hx hb hK hI e10 zd_Mo_trade_229 ?_
        refine lv_iadd hx hb zd_Mo_trade_230 ?_
        refine lv_istore (lv' := [(5, .int (((nI 9) * x1) + v9)), (0, .ref a0), (1, .int x1), (2, .int x2), (3, .int x3)]) hx hb zd_Mo_trade_231 hl (Nat.le_of_ble_eq_true rfl) rfl (fun ls hl => ?_)
        refine lv_aload_n hx hb zd_Mo_trade_233 rfl (lv_at hl 1 rfl) ?_
        obtain ⟨b12, e11, h⟩ := zb_o h
        refine za_getr hx hb hts hown hK hI zl_Mo_86 e11 zd_Mo_trade_234 ?_
        refine lv_iload hx hb zd_Mo_trade_237 (lv_at hl 0 rfl) ?_
        refine lv_aload_n hx hb zd_Mo_trade_239 rfl (lv_at hl 1 rfl) ?_
        obtain ⟨b14, e13, h⟩ := zb_o h
        refine za_getr hx hb hts hown hK hI zl_Mo_68 e13 zd_Mo_trade_240 ?_
        refine lv_iload_n hx hb zd_Mo_trade_243 rfl (lv_at hl 3 rfl) ?_
        obtain ⟨v15, e16, h⟩ := zb_o h
        refine za_iald hx hb hK hI e16 zd_Mo_trade_244 ?_
        obtain ⟨σ17, e18, h⟩ := zb_o h
        refine za_iast hx hb hK hI e18 zd_Mo_trade_245 (fun H locs hI => ?_)
        refine lv_aload_n hx hb zd_Mo_trade_246 rfl (lv_at hl 1 rfl) ?_
        obtain ⟨b20, e19, h⟩ := zb_o h
        refine za_getr hx hb hts hown hK hI zl_Mo_89 e19 zd_Mo_trade_247 ?_
        refine lv_iload hx hb zd_Mo_trade_250 (lv_at hl 0 rfl) ?_
        refine lv_aload_n hx hb zd_Mo_trade_252 rfl (lv_at hl 1 rfl) ?_
        obtain ⟨b22, e21, h⟩ := zb_o h
        refine za_getr hx hb hts hown hK hI zl_Mo_71 e21 zd_Mo_trade_253 ?_
        refine lv_iload_n hx hb zd_Mo_trade_256 rfl (lv_at hl 3 rfl) ?_
        obtain ⟨v23, e24, h⟩ := zb_o h
        refine za_iald hx hb hK hI e24 zd_Mo_trade_257 ?_
        obtain ⟨σ25, e26, h⟩ := zb_o h
        refine za_iast hx hb hK hI e26 zd_Mo_trade_258 (fun H locs hI => ?_)
        refine lv_aload_n hx hb zd_Mo_trade_259 rfl (lv_at hl 1 rfl) ?_
        obtain ⟨b28, e27, h⟩ := zb_o h
        refine za_getr hx hb hts hown hK hI zl_Mo_92 e27 zd_Mo_trade_260 ?_
        refine lv_iload hx hb zd_Mo_trade_263 (lv_at hl 0 rfl) ?_
        refine lv_aload_n hx hb zd_Mo_trade_265 rfl (lv_at hl 1 rfl) ?_
        obtain ⟨b30, e29, h⟩ := zb_o h
        refine za_getr hx hb hts hown hK hI zl_Mo_74 e29 zd_Mo_trade_266 ?_
        refine lv_iload_n hx hb zd_Mo_trade_269 rfl (lv_at hl 3 rfl) ?_
        obtain ⟨v31, e32, h⟩ := zb_o h
        refine za_iald hx hb hK hI e32 zd_Mo_trade_270 ?_
        obtain ⟨σ33, e34, h⟩ := zb_o h
        refine za_iast hx hb hK hI e34 zd_Mo_trade_271 (fun H locs hI => ?_)
        refine lv_aload_n hx hb zd_Mo_trade_272 rfl (lv_at hl 1 rfl) ?_
        obtain ⟨b36, e35, h⟩ := zb_o h
        refine za_getr hx hb hts hown hK hI zl_Mo_95 e35 zd_Mo_trade_273 ?_
        refine lv_iload hx hb zd_Mo_trade_276 (lv_at hl 0 rfl) ?_
        refine lv_iload_n hx hb zd_Mo_trade_278 rfl (lv_at hl 4 rfl) ?_
        obtain ⟨σ37, e38, h⟩ := zb_o h
        refine za_iast hx hb hK hI e38 zd_Mo_trade_279 (fun H locs hI => ?_)
        refine lv_aload_n hx hb zd_Mo_trade_280 rfl (lv_at hl 1 rfl) ?_
        obtain ⟨b40, e39, h⟩ := zb_o h
        refine za_getr hx hb hts hown hK hI zl_Mo_83 e39 zd_Mo_trade_281 ?_
        refine lv_iload_n hx hb zd_Mo_trade_284 rfl (lv_at hl 2 rfl) ?_
        refine lv_dup2_11 hx hb zd_Mo_trade_285 rfl rfl ?_
        obtain ⟨v41, e42, h⟩ := zb_o h
        refine za_iald hx hb hK hI e42 zd_Mo_trade_286 ?_
        refine lv_iconst (v := nI 1) hx hb zd_Mo_trade_287 (by decide) ?_
        refine lv_iadd hx hb zd_Mo_trade_288 ?_
        obtain ⟨σ43, e44, h⟩ := zb_o h
        refine za_iast hx hb hK hI e44 zd_Mo_trade_289 (fun H locs hI => ?_)
        exact B290 _ _ ls σ43 hI (lv_sub hl [] rfl) h
  have B199 : ∀ (k13 : Nat → Int32 → Int32 → Int32 → Int32 → Int32 → za_h → Option (Unit × za_h)), (∀ (H : Heap) (locs : List Loc) (ls : Array Slot) (a0 : Nat) (x1 : Int32) (x2 : Int32) (x3 : Int32) (x4 : Int32) (x5 : Int32) (σ : za_h), za_I D ca n0 s σ H locs → lv_has ls 9 [(0, .ref a0), (1, .int x1), (2, .int x2), (3, .int x3), (4, .int x4), (5, .int x5)] → k13 a0 x1 x2 x3 x4 x5 σ = some (r, σ') → W p l e ({ frames := 1, cells := 0, slots := 0, locals := 29 }) s m ([.ref ay0, .int xy1, .int xy2] : List Value).toArray below meth c H locs 0 0 (MQ below (za_Qv D ca n0 r σ') ([.ref ay0, .int xy1, .int xy2] : List Value).toArray s 0 0 (za_A n0)) (F0 m 13 ls [])) → ∀ (H : Heap) (locs : List Loc) (ls : Array Slot) (a0 : Nat) (x1 : Int32) (x2 : Int32) (x3 : Int32) (x4 : Int32) (x5 : Int32) (σ : za_h), za_I D ca n0 s σ H locs → lv_has ls 9 [(0, .ref a0), (1, .int x1), (2, .int x2), (3, .int x3), (4, .int x4), (5, .int x5)] → zf_Mo_trade_199 k13 a0 x1 x2 x3 x4 x5 σ = some (r, σ') → W p l e ({ frames := 1, cells := 0, slots := 0, locals := 29 }) s m ([.ref ay0, .int xy1, .int xy2] : List Value).toArray below meth c H locs 0 0 (MQ below (za_Qv D ca n0 r σ') ([.ref ay0, .int xy1, .int xy2] : List Value).toArray s 0 0 (za_A n0)) (F0 m 199 ls []) := by
    intro k13 hk13 H locs ls a0 x1 x2 x3 x4 x5 σ hI hl h
    unfold zf_Mo_trade_199 at h
    refine lv_iinc (k := 5) (v := (x5 + nI 1)) (lv' := [(5, .int (x5 + nI 1)), (0, .ref a0), (1, .int x1), (2, .int x2), (3, .int x3), (4, .int x4)]) hx hb zd_Mo_trade_199 hl rfl rfl (Nat.le_of_ble_eq_true rfl) rfl (fun ls hl => ?_)
    refine lv_goto hx hb (tgt := 13) zd_Mo_trade_202 (by decide) ?_
    exact hk13 _ _ ls a0 x1 x2 x3 x4 (x5 + nI 1) σ hI (lv_sub hl [1, 2, 3, 4, 5, 0] rfl) h
  have B54 : ∀ (k13 : Nat → Int32 → Int32 → Int32 → Int32 → Int32 → za_h → Option (Unit × za_h)), (∀ (H : Heap) (locs : List Loc) (ls : Array Slot) (a0 : Nat) (x1 : Int32) (x2 : Int32) (x3 : Int32) (x4 : Int32) (x5 : Int32) (σ : za_h), za_I D ca n0 s σ H locs → lv_has ls 9 [(0, .ref a0), (1, .int x1), (2, .int x2), (3, .int x3), (4, .int x4), (5, .int x5)] → k13 a0 x1 x2 x3 x4 x5 σ = some (r, σ') → W p l e ({ frames := 1, cells := 0, slots := 0, locals := 29 }) s m ([.ref ay0, .int xy1, .int xy2] : List Value).toArray below meth c H locs 0 0 (MQ below (za_Qv D ca n0 r σ') ([.ref ay0, .int xy1, .int xy2] : List Value).toArray s 0 0 (za_A n0)) (F0 m 13 ls [])) → ∀ (H : Heap) (locs : List Loc) (ls : Array Slot) (a0 : Nat) (x1 : Int32) (x2 : Int32) (x3 : Int32) (x5 : Int32) (σ : za_h), za_I D ca n0 s σ H locs → lv_has ls 9 [(0, .ref a0), (1, .int x1), (2, .int x2), (3, .int x3), (5, .int x5)] → zf_Mo_trade_54 k13 a0 x1 x2 x3 x5 σ = some (r, σ') → W p l e ({ frames := 1, cells := 0, slots := 0, locals := 29 }) s m ([.ref ay0, .int xy1, .int xy2] : List Value).toArray below meth c H locs 0 0 (MQ below (za_Qv D ca n0 r σ') ([.ref ay0, .int xy1, .int xy2] : List Value).toArray s 0 0 (za_A n0)) (F0 m 54 ls []) := by
    intro k13 hk13 H locs ls a0 x1 x2 x3 x5 σ hI hl h
    unfold zf_Mo_trade_54 at h
    refine lv_iconst (v := nI 0) hx hb zd_Mo_trade_54 (by decide) ?_
    refine lv_istore (lv' := [(4, .int (nI 0)), (0, .ref a0), (1, .int x1), (2, .int x2), (3, .int x3), (5, .int x5)]) hx hb zd_Mo_trade_55 hl (Nat.le_of_ble_eq_true rfl) rfl (fun ls hl => ?_)
    refine lv_goto hx hb (tgt := 199) zd_Mo_trade_57 (by decide) ?_
    exact B199 _ hk13 _ _ ls a0 x1 x2 x3 (nI 0) x5 σ hI (lv_sub hl [1, 2, 3, 4, 0, 5] rfl) h
  have B192 : ∀ (k13 : Nat → Int32 → Int32 → Int32 → Int32 → Int32 → za_h → Option (Unit × za_h)), (∀ (H : Heap) (locs : List Loc) (ls : Array Slot) (a0 : Nat) (x1 : Int32) (x2 : Int32) (x3 : Int32) (x4 : Int32) (x5 : Int32) (σ : za_h), za_I D ca n0 s σ H locs → lv_has ls 9 [(0, .ref a0), (1, .int x1), (2, .int x2), (3, .int x3), (4, .int x4), (5, .int x5)] → k13 a0 x1 x2 x3 x4 x5 σ = some (r, σ') → W p l e ({ frames := 1, cells := 0, slots := 0, locals := 29 }) s m ([.ref ay0, .int xy1, .int xy2] : List Value).toArray below meth c H locs 0 0 (MQ below (za_Qv D ca n0 r σ') ([.ref ay0, .int xy1, .int xy2] : List Value).toArray s 0 0 (za_A n0)) (F0 m 13 ls [])) → ∀ (H : Heap) (locs : List Loc) (ls : Array Slot) (a0 : Nat) (x1 : Int32) (x2 : Int32) (x3 : Int32) (x4 : Int32) (x5 : Int32) (x6 : Int32) (σ : za_h), za_I D ca n0 s σ H locs → lv_has ls 9 [(0, .ref a0), (1, .int x1), (2, .int x2), (3, .int x3), (4, .int x4), (5, .int x5), (6, .int x6)] → zf_Mo_trade_192 k13 a0 x1 x2 x3 x4 x5 x6 σ = some (r, σ') → W p l e ({ frames := 1, cells := 0, slots := 0, locals := 29 }) s m ([.ref ay0, .int xy1, .int xy2] : List Value).toArray below meth c H locs 0 0 (MQ below (za_Qv D ca n0 r σ') ([.ref ay0, .int xy1, .int xy2] : List Value).toArray s 0 0 (za_A n0)) (F0 m 192 ls []) := by
    intro k13 hk13 H locs ls a0 x1 x2 x3 x4 x5 x6 σ hI hl h
    unfold zf_Mo_trade_192 at h
    refine lv_aload_n hx hb zd_Mo_trade_192 rfl (lv_at hl 0 rfl) ?_
    refine lv_iload_n hx hb zd_Mo_trade_193 rfl (lv_at hl 1 rfl) ?_
    refine lv_iload hx hb zd_Mo_trade_194 (lv_at hl 6 rfl) ?_
    obtain ⟨_, g1, h⟩ := zb_o h
    obtain ⟨⟨r2, σ3⟩, e4, h⟩ := zb_o h
    refine za_callv (za_runV hx hb hml hown hts hK hI g1 (zm_Mo_remove e4) zj_Mo_218 ⟨rfl, rfl⟩ ⟨Nat.le_of_ble_eq_true rfl, Nat.le_of_ble_eq_true rfl⟩ rfl hl.1 rfl (Nat.le_of_ble_eq_true rfl) zd_Mo_trade_196 ⟨Nat.le_of_ble_eq_true rfl, Nat.le_of_ble_eq_true rfl⟩) hI (fun H locs hI => ?_)
    exact B199 _ hk13 _ _ ls a0 x1 x2 x3 x4 x5 σ3 hI (lv_sub hl [0, 1, 2, 3, 4, 5] rfl) h
  have B170 : ∀ (k13 : Nat → Int32 → Int32 → Int32 → Int32 → Int32 → za_h → Option (Unit × za_h)), (∀ (H : Heap) (locs : List Loc) (ls : Array Slot) (a0 : Nat) (x1 : Int32) (x2 : Int32) (x3 : Int32) (x4 : Int32) (x5 : Int32) (σ : za_h), za_I D ca n0 s σ H locs → lv_has ls 9 [(0, .ref a0), (1, .int x1), (2, .int x2), (3, .int x3), (4, .int x4), (5, .int x5)] → k13 a0 x1 x2 x3 x4 x5 σ = some (r, σ') → W p l e ({ frames := 1, cells := 0, slots := 0, locals := 29 }) s m ([.ref ay0, .int xy1, .int xy2] : List Value).toArray below meth c H locs 0 0 (MQ below (za_Qv D ca n0 r σ') ([.ref ay0, .int xy1, .int xy2] : List Value).toArray s 0 0 (za_A n0)) (F0 m 13 ls [])) → ∀ (H : Heap) (locs : List Loc) (ls : Array Slot) (a0 : Nat) (x1 : Int32) (x2 : Int32) (x3 : Int32) (x5 : Int32) (x6 : Int32) (x7 : Int32) (x8 : Int32) (xs0 : Int32) (σ : za_h), za_I D ca n0 s σ H locs → lv_has ls 9 [(0, .ref a0), (1, .int x1), (2, .int x2), (3, .int x3), (5, .int x5), (6, .int x6), (7, .int x7), (8, .int x8)] → zf_Mo_trade_170 k13 a0 x1 x2 x3 x5 x6 x7 x8 xs0 σ = some (r, σ') → W p l e ({ frames := 1, cells := 0, slots := 0, locals := 29 }) s m ([.ref ay0, .int xy1, .int xy2] : List Value).toArray below meth c H locs 0 0 (MQ below (za_Qv D ca n0 r σ') ([.ref ay0, .int xy1, .int xy2] : List Value).toArray s 0 0 (za_A n0)) (F0 m 170 ls [.int xs0]) := by
    intro k13 hk13 H locs ls a0 x1 x2 x3 x5 x6 x7 x8 xs0 σ hI hl h
    unfold zf_Mo_trade_170 at h
    refine lv_istore (lv' := [(4, .int xs0), (0, .ref a0), (1, .int x1), (2, .int x2), (3, .int x3), (5, .int x5), (6, .int x6), (7, .int x7), (8, .int x8)]) hx hb zd_Mo_trade_170 hl (Nat.le_of_ble_eq_true rfl) rfl (fun ls hl => ?_)
    refine lv_aload_n hx hb zd_Mo_trade_172 rfl (lv_at hl 1 rfl) ?_
    obtain ⟨b2, e1, h⟩ := zb_o h
    refine za_getr hx hb hts hown hK hI zl_Mo_95 e1 zd_Mo_trade_173 ?_
    refine lv_iload hx hb zd_Mo_trade_176 (lv_at hl 6 rfl) ?_
    obtain ⟨v3, e4, h⟩ := zb_o h
    refine za_iald hx hb hK hI e4 zd_Mo_trade_178 ?_
    refine lv_if_eq hx hb (tgt := 192) zd_Mo_trade_179 (by decide) (fun c5 => ?_) (fun c5 => ?_)
    · replace h := zb_t c5 h
      exact B192 _ hk13 _ _ ls a0 x1 x2 x3 xs0 x5 x6 σ hI (lv_sub hl [1, 2, 3, 4, 0, 5, 6] rfl) h
    · replace h := zb_f c5 h
      refine lv_iload hx hb zd_Mo_trade_182 (lv_at hl 7 rfl) ?_
      refine lv_if_ne hx hb (tgt := 199) zd_Mo_trade_184 (by decide) (fun c6 => ?_) (fun c6 => ?_)
      · replace h := zb_f c6 h
        exact B199 _ hk13 _ _ ls a0 x1 x2 x3 xs0 x5 σ hI (lv_sub hl [1, 2, 3, 4, 0, 5] rfl) h
      · replace h := zb_t c6 h
        refine lv_iload hx hb zd_Mo_trade_187 (lv_at hl 8 rfl) ?_
        refine lv_if_eq hx hb (tgt := 199) zd_Mo_trade_189 (by decide) (fun c7 => ?_) (fun c7 => ?_)
        · replace h := zb_t c7 h
          exact B199 _ hk13 _ _ ls a0 x1 x2 x3 xs0 x5 σ hI (lv_sub hl [1, 2, 3, 4, 0, 5] rfl) h
        · replace h := zb_f c7 h
          exact B192 _ hk13 _ _ ls a0 x1 x2 x3 xs0 x5 x6 σ hI (lv_sub hl [1, 2, 3, 4, 0, 5, 6] rfl) h
  have B165 : ∀ (k13 : Nat → Int32 → Int32 → Int32 → Int32 → Int32 → za_h → Option (Unit × za_h)), (∀ (H : Heap) (locs : List Loc) (ls : Array Slot) (a0 : Nat) (x1 : Int32) (x2 : Int32) (x3 : Int32) (x4 : Int32) (x5 : Int32) (σ : za_h), za_I D ca n0 s σ H locs → lv_has ls 9 [(0, .ref a0), (1, .int x1), (2, .int x2), (3, .int x3), (4, .int x4), (5, .int x5)] → k13 a0 x1 x2 x3 x4 x5 σ = some (r, σ') → W p l e ({ frames := 1, cells := 0, slots := 0, locals := 29 }) s m ([.ref ay0, .int xy1, .int xy2] : List Value).toArray below meth c H locs 0 0 (MQ below (za_Qv D ca n0 r σ') ([.ref ay0, .int xy1, .int xy2] : List Value).toArray s 0 0 (za_A n0)) (F0 m 13 ls [])) → ∀ (H : Heap) (locs : List Loc) (ls : Array Slot) (a0 : Nat) (x1 : Int32) (x2 : Int32) (x3 : Int32) (x5 : Int32) (x6 : Int32) (x7 : Int32) (x8 : Int32) (σ : za_h), za_I D ca n0 s σ H locs → lv_has ls 9 [(0, .ref a0), (1, .int x1), (2, .int x2), (3, .int x3), (5, .int x5), (6, .int x6), (7, .int x7), (8, .int x8)] → zf_Mo_trade_165 k13 a0 x1 x2 x3 x5 x6 x7 x8 σ = some (r, σ') → W p l e ({ frames := 1, cells := 0, slots := 0, locals := 29 }) s m ([.ref ay0, .int xy1, .int xy2] : List Value).toArray below meth c H locs 0 0 (MQ below (za_Qv D ca n0 r σ') ([.ref ay0, .int xy1, .int xy2] : List Value).toArray s 0 0 (za_A n0)) (F0 m 165 ls []) := by
    intro k13 hk13 H locs ls a0 x1 x2 x3 x5 x6 x7 x8 σ hI hl h
    unfold zf_Mo_trade_165 at h
    refine lv_iconst (v := nI 1) hx hb zd_Mo_trade_165 (by decide) ?_
    refine lv_goto hx hb (tgt := 170) zd_Mo_trade_166 (by decide) ?_
    exact B170 _ hk13 _ _ ls a0 x1 x2 x3 x5 x6 x7 x8 (nI 1) σ hI (lv_sub hl [0, 1, 2, 3, 4, 5, 6, 7] rfl) h
  have B153 : ∀ (k13 : Nat → Int32 → Int32 → Int32 → Int32 → Int32 → za_h → Option (Unit × za_h)), (∀ (H : Heap) (locs : List Loc) (ls : Array Slot) (a0 : Nat) (x1 : Int32) (x2 : Int32) (x3 : Int32) (x4 : Int32) (x5 : Int32) (σ : za_h), za_I D ca n0 s σ H locs → lv_has ls 9 [(0, .ref a0), (1, .int x1), (2, .int x2), (3, .int x3), (4, .int x4), (5, .int x5)] → k13 a0 x1 x2 x3 x4 x5 σ = some (r, σ') → W p l e ({ frames := 1, cells := 0, slots := 0, locals := 29 }) s m ([.ref ay0, .int xy1, .int xy2] : List Value).toArray below meth c H locs 0 0 (MQ below (za_Qv D ca n0 r σ') ([.ref ay0, .int xy1, .int xy2] : List Value).toArray s 0 0 (za_A n0)) (F0 m 13 ls [])) → ∀ (H : Heap) (locs : List Loc) (ls : Array Slot) (a0 : Nat) (x1 : Int32) (x2 : Int32) (x3 : Int32) (x5 : Int32) (x6 : Int32) (x7 : Int32) (xs0 : Int32) (σ : za_h), za_I D ca n0 s σ H locs → lv_has ls 9 [(0, .ref a0), (1, .int x1), (2, .int x2), (3, .int x3), (5, .int x5), (6, .int x6), (7, .int x7)] → zf_Mo_trade_153 k13 a0 x1 x2 x3 x5 x6 x7 xs0 σ = some (r, σ') → W p l e ({ frames := 1, cells := 0, slots := 0, locals := 29 }) s m ([.ref ay0, .int xy1, .int xy2] : List Value).toArray below meth c H locs 0 0 (MQ below (za_Qv D ca n0 r σ') ([.ref ay0, .int xy1, .int xy2] : List Value).toArray s 0 0 (za_A n0)) (F0 m 153 ls [.int xs0]) := by
    intro k13 hk13 H locs ls a0 x1 x2 x3 x5 x6 x7 xs0 σ hI hl h
    unfold zf_Mo_trade_153 at h
    refine lv_istore (lv' := [(8, .int xs0), (0, .ref a0), (1, .int x1), (2, .int x2), (3, .int x3), (5, .int x5), (6, .int x6), (7, .int x7)]) hx hb zd_Mo_trade_153 hl (Nat.le_of_ble_eq_true rfl) rfl (fun ls hl => ?_)
    refine lv_iload hx hb zd_Mo_trade_155 (lv_at hl 7 rfl) ?_
    refine lv_if_gt hx hb (tgt := 165) zd_Mo_trade_157 (by decide) (fun c1 => ?_) (fun c1 => ?_)
    · replace h := zb_t c1 h
      exact B165 _ hk13 _ _ ls a0 x1 x2 x3 x5 x6 x7 xs0 σ hI (lv_sub hl [1, 2, 3, 4, 5, 6, 7, 0] rfl) h
    · replace h := zb_f c1 h
      refine lv_iload hx hb zd_Mo_trade_160 (lv_at hl 0 rfl) ?_
      refine lv_if_eq hx hb (tgt := 169) zd_Mo_trade_162 (by decide) (fun c2 => ?_) (fun c2 => ?_)
      · replace h := zb_t c2 h
        refine lv_iconst (v := nI 0) hx hb zd_Mo_trade_169 (by decide) ?_
        exact B170 _ hk13 _ _ ls a0 x1 x2 x3 x5 x6 x7 xs0 (nI 0) σ hI (lv_sub hl [1, 2, 3, 4, 5, 6, 7, 0] rfl) h
      · replace h := zb_f c2 h
        exact B165 _ hk13 _ _ ls a0 x1 x2 x3 x5 x6 x7 xs0 σ hI (lv_sub hl [1, 2, 3, 4, 5, 6, 7, 0] rfl) h
  have B13 : ∀ n : Nat, ∀ (H : Heap) (locs : List Loc) (ls : Array Slot) (a0 : Nat) (x1 : Int32) (x2 : Int32) (x3 : Int32) (x4 : Int32) (x5 : Int32) (σ : za_h), za_I D ca n0 s σ H locs → lv_has ls 9 [(0, .ref a0), (1, .int x1), (2, .int x2), (3, .int x3), (4, .int x4), (5, .int x5)] → zf_Mo_trade_13 n a0 x1 x2 x3 x4 x5 σ = some (r, σ') → W p l e ({ frames := 1, cells := 0, slots := 0, locals := 29 }) s m ([.ref ay0, .int xy1, .int xy2] : List Value).toArray below meth c H locs 0 0 (MQ below (za_Qv D ca n0 r σ') ([.ref ay0, .int xy1, .int xy2] : List Value).toArray s 0 0 (za_A n0)) (F0 m 13 ls []) := by
    intro n
    induction n with
    | zero => intro H locs ls a0 x1 x2 x3 x4 x5 σ hI hl h; rw [zf_Mo_trade_13] at h; cases h
    | succ n ih =>
      intro H locs ls a0 x1 x2 x3 x4 x5 σ hI hl h
      rw [zf_Mo_trade_13] at h
      refine lv_iload hx hb zd_Mo_trade_13 (lv_at hl 5 rfl) ?_
      refine lv_sipush (v := nI 1100) hx hb zd_Mo_trade_15 (by decide) ?_
      refine lv_icmp_ge hx hb (tgt := 205) zd_Mo_trade_18 (by decide) (fun c1 => ?_) (fun c1 => ?_)
      · replace h := zb_t c1 h
        exact B205 _ _ ls a0 x1 x2 x3 σ hI (lv_sub hl [0, 1, 2, 3] rfl) h
      · replace h := zb_f c1 h
        refine lv_iload hx hb zd_Mo_trade_21 (lv_at hl 4 rfl) ?_
        refine lv_if_eq hx hb (tgt := 205) zd_Mo_trade_23 (by decide) (fun c2 => ?_) (fun c2 => ?_)
        · replace h := zb_t c2 h
          exact B205 _ _ ls a0 x1 x2 x3 σ hI (lv_sub hl [0, 1, 2, 3] rfl) h
        · replace h := zb_f c2 h
          refine lv_aload_n hx hb zd_Mo_trade_26 rfl (lv_at hl 0 rfl) ?_
          refine lv_iload_n hx hb zd_Mo_trade_27 rfl (lv_at hl 1 rfl) ?_
          refine lv_aload_n hx hb zd_Mo_trade_28 rfl (lv_at hl 0 rfl) ?_
          obtain ⟨b4, e3, h⟩ := zb_o h
          refine za_getr hx hb hts hown hK hI zl_Mo_71 e3 zd_Mo_trade_29 ?_
          refine lv_iload_n hx hb zd_Mo_trade_32 rfl (lv_at hl 2 rfl) ?_
          obtain ⟨v5, e6, h⟩ := zb_o h
          refine za_iald hx hb hK hI e6 zd_Mo_trade_33 ?_
          refine lv_aload_n hx hb zd_Mo_trade_34 rfl (lv_at hl 0 rfl) ?_
          obtain ⟨b8, e7, h⟩ := zb_o h
          refine za_getr hx hb hts hown hK hI zl_Mo_74 e7 zd_Mo_trade_35 ?_
          refine lv_iload_n hx hb zd_Mo_trade_38 rfl (lv_at hl 2 rfl) ?_
          obtain ⟨v9, e10, h⟩ := zb_o h
          refine za_iald hx hb hK hI e10 zd_Mo_trade_39 ?_
          obtain ⟨_, g11, h⟩ := zb_o h
          obtain ⟨⟨r12, σ13⟩, e14, h⟩ := zb_o h
          refine za_calli (za_runV hx hb hml hown hts hK hI g11 (zm_Mo_best e14) zj_Mo_211 ⟨rfl, rfl⟩ ⟨Nat.le_of_ble_eq_true rfl, Nat.le_of_ble_eq_true rfl⟩ rfl hl.1 rfl (Nat.le_of_ble_eq_true rfl) zd_Mo_trade_40 ⟨Nat.le_of_ble_eq_true rfl, Nat.le_of_ble_eq_true rfl⟩) hI (fun H locs hI => ?_)
          refine lv_istore (lv' := [(6, .int r12), (0, .ref a0), (1, .int x1), (2, .int x2), (3, .int x3), (4, .int x4), (5, .int x5)]) hx hb zd_Mo_trade_43 hl (Nat.le_of_ble_eq_true rfl) rfl (fun ls hl => ?_)
          refine lv_iload_n hx hb zd_Mo_trade_45 rfl (lv_at hl 4 rfl) ?_
          refine lv_if_eq hx hb (tgt := 54) zd_Mo_trade_46 (by decide) (fun c15 => ?_) (fun c15 => ?_)
          · replace h := zb_t c15 h
            exact B54 _ ih _ _ ls a0 x1 x2 x3 x5 σ13 hI (lv_sub hl [1, 2, 3, 4, 6] rfl) h
          · replace h := zb_f c15 h
            refine lv_iload hx hb zd_Mo_trade_49 (lv_at hl 0 rfl) ?_
            refine lv_if_ge hx hb (tgt := 60) zd_Mo_trade_51 (by decide) (fun c16 => ?_) (fun c16 => ?_)
            · replace h := zb_t c16 h
              refine lv_aload_n hx hb zd_Mo_trade_60 rfl (lv_at hl 1 rfl) ?_
              refine lv_iload_n hx hb zd_Mo_trade_61 rfl (lv_at hl 2 rfl) ?_
              refine lv_iload_n hx hb zd_Mo_trade_62 rfl (lv_at hl 3 rfl) ?_
              refine lv_iload hx hb zd_Mo_trade_63 (lv_at hl 0 rfl) ?_
              refine lv_iload_n hx hb zd_Mo_trade_65 rfl (lv_at hl 4 rfl) ?_
              obtain ⟨_, g17, h⟩ := zb_o h
              obtain ⟨⟨r18, σ19⟩, e20, h⟩ := zb_o h
              refine za_calli (za_runV hx hb hml hown hts hK hI g17 (zm_Mo_cross e20) zj_Mo_214 ⟨rfl, rfl⟩ ⟨Nat.le_of_ble_eq_true rfl, Nat.le_of_ble_eq_true rfl⟩ rfl hl.1 rfl (Nat.le_of_ble_eq_true rfl) zd_Mo_trade_66 ⟨Nat.le_of_ble_eq_true rfl, Nat.le_of_ble_eq_true rfl⟩) hI (fun H locs hI => ?_)
              refine lv_istore (lv' := [(7, .int r18), (6, .int r12), (0, .ref a0), (1, .int x1), (2, .int x2), (3, .int x3), (4, .int x4), (5, .int x5)]) hx hb zd_Mo_trade_69 hl (Nat.le_of_ble_eq_true rfl) rfl (fun ls hl => ?_)
              refine lv_iload_n hx hb zd_Mo_trade_71 rfl (lv_at hl 5 rfl) ?_
              refine lv_iload hx hb zd_Mo_trade_72 (lv_at hl 0 rfl) ?_
              refine lv_isub hx hb zd_Mo_trade_74 ?_
              refine lv_istore_n (lv' := [(3, .int (x3 - r18)), (7, .int r18), (6, .int r12), (0, .ref a0), (1, .int x1), (2, .int x2), (4, .int x4), (5, .int x5)]) hx hb zd_Mo_trade_75 rfl hl (Nat.le_of_ble_eq_true rfl) rfl (fun ls hl => ?_)
              refine lv_aload_n hx hb zd_Mo_trade_76 rfl (lv_at hl 3 rfl) ?_
              obtain ⟨b22, e21, h⟩ := zb_o h
              refine za_getr hx hb hts hown hK hI zl_Mo_89 e21 zd_Mo_trade_77 ?_
              refine lv_iload hx hb zd_Mo_trade_80 (lv_at hl 2 rfl) ?_
              obtain ⟨v23, e24, h⟩ := zb_o h
              refine za_iald hx hb hK hI e24 zd_Mo_trade_82 ?_
              refine lv_iconst (v := nI 1) hx hb zd_Mo_trade_83 (by decide) ?_
              refine lv_icmp_ne hx hb (tgt := 119) zd_Mo_trade_84 (by decide) (fun c25 => ?_) (fun c25 => ?_)
              · replace h := zb_f c25 h
                refine lv_aload_n hx hb zd_Mo_trade_119 rfl (lv_at hl 3 rfl) ?_
                obtain ⟨b27, e26, h⟩ := zb_o h
                refine za_getr hx hb hts hown hK hI zl_Mo_80 e26 zd_Mo_trade_120 ?_
                refine lv_bipush (v := nI 8) hx hb zd_Mo_trade_123 (by decide) ?_
                refine lv_iload_n hx hb zd_Mo_trade_125 rfl (lv_at hl 4 rfl) ?_
                refine lv_imul hx hb zd_Mo_trade_126 ?_
                refine lv_iconst (v := nI 2) hx hb zd_Mo_trade_127 (by decide) ?_
                refine lv_aload_n hx hb zd_Mo_trade_128 rfl (lv_at hl 3 rfl) ?_
                obtain ⟨b29, e28, h⟩ := zb_o h
                refine za_getr hx hb hts hown hK hI zl_Mo_86 e28 zd_Mo_trade_129 ?_
                refine lv_iload hx hb zd_Mo_trade_132 (lv_at hl 2 rfl) ?_
                obtain ⟨v30, e31, h⟩ := zb_o h
                refine za_iald hx hb hK hI e31 zd_Mo_trade_134 ?_
                refine lv_imul hx hb zd_Mo_trade_135 ?_
                refine lv_iadd hx hb zd_Mo_trade_136 ?_
                obtain ⟨v32, e33, h⟩ := zb_o h
                refine za_iald hx hb hK hI e33 zd_Mo_trade_137 ?_
                refine lv_aload_n hx hb zd_Mo_trade_138 rfl (lv_at hl 3 rfl) ?_
                obtain ⟨b35, e34, h⟩ := zb_o h
                refine za_getr hx hb hts hown hK hI zl_Mo_92 e34 zd_Mo_trade_139 ?_
                refine lv_iload hx hb zd_Mo_trade_142 (lv_at hl 2 rfl) ?_
                obtain ⟨v36, e37, h⟩ := zb_o h
                refine za_iald hx hb hK hI e37 zd_Mo_trade_144 ?_
                refine lv_icmp_ge hx hb (tgt := 152) zd_Mo_trade_145 (by decide) (fun c38 => ?_) (fun c38 => ?_)
                · replace h := zb_t c38 h
                  refine lv_iconst (v := nI 0) hx hb zd_Mo_trade_152 (by decide) ?_
                  exact B153 _ ih _ _ ls a0 x1 x2 (x3 - r18) x5 r12 r18 (nI 0) σ19 hI (lv_sub hl [3, 4, 5, 0, 7, 2, 1] rfl) h
                · replace h := zb_f c38 h
                  refine lv_iconst (v := nI 1) hx hb zd_Mo_trade_148 (by decide) ?_
                  refine lv_goto hx hb (tgt := 153) zd_Mo_trade_149 (by decide) ?_
                  exact B153 _ ih _ _ ls a0 x1 x2 (x3 - r18) x5 r12 r18 (nI 1) σ19 hI (lv_sub hl [3, 4, 5, 0, 7, 2, 1] rfl) h
              · replace h := zb_t c25 h
                refine lv_aload_n hx hb zd_Mo_trade_87 rfl (lv_at hl 3 rfl) ?_
                obtain ⟨b40, e39, h⟩ := zb_o h
                refine za_getr hx hb hts hown hK hI zl_Mo_80 e39 zd_Mo_trade_88 ?_
                refine lv_bipush (v := nI 8) hx hb zd_Mo_trade_91 (by decide) ?_
                refine lv_iload_n hx hb zd_Mo_trade_93 rfl (lv_at hl 4 rfl) ?_
                refine lv_imul hx hb zd_Mo_trade_94 ?_
                refine lv_iconst (v := nI 2) hx hb zd_Mo_trade_95 (by decide) ?_
                refine lv_aload_n hx hb zd_Mo_trade_96 rfl (lv_at hl 3 rfl) ?_
                obtain ⟨b42, e41, h⟩ := zb_o h
                refine za_getr hx hb hts hown hK hI zl_Mo_86 e41 zd_Mo_trade_97 ?_
                refine lv_iload hx hb zd_Mo_trade_100 (lv_at hl 2 rfl) ?_
                obtain ⟨v43, e44, h⟩ := zb_o h
                refine za_iald hx hb hK hI e44 zd_Mo_trade_102 ?_
                refine lv_imul hx hb zd_Mo_trade_103 ?_
                refine lv_iadd hx hb zd_Mo_trade_104 ?_
                refine lv_iconst (v := nI 1) hx hb zd_Mo_trade_105 (by decide) ?_
                refine lv_iadd hx hb zd_Mo_trade_106 ?_
                obtain ⟨v45, e46, h⟩ := zb_o h
                refine za_iald hx hb hK hI e46 zd_Mo_trade_107 ?_
                refine lv_if_ne hx hb (tgt := 115) zd_Mo_trade_108 (by decide) (fun c47 => ?_) (fun c47 => ?_)
                · replace h := zb_f c47 h
                  refine lv_iconst (v := nI 0) hx hb zd_Mo_trade_115 (by decide) ?_
                  refine lv_goto hx hb (tgt := 153) zd_Mo_trade_116 (by decide) ?_
                  exact B153 _ ih _ _ ls a0 x1 x2 (x3 - r18) x5 r12 r18 (nI 0) σ19 hI (lv_sub hl [3, 4, 5, 0, 7, 2, 1] rfl) h
                · replace h := zb_t c47 h
                  refine lv_iconst (v := nI 1) hx hb zd_Mo_trade_111 (by decide) ?_
                  refine lv_goto hx hb (tgt := 153) zd_Mo_trade_112 (by decide) ?_
                  exact B153 _ ih _ _ ls a0 x1 x2 (x3 - r18) x5 r12 r18 (nI 1) σ19 hI (lv_sub hl [3, 4, 5, 0, 7, 2, 1] rfl) h
            · replace h := zb_f c16 h
              exact B54 _ ih _ _ ls a0 x1 x2 x3 x5 σ13 hI (lv_sub hl [1, 2, 3, 4, 6] rfl) h
  unfold zf_Mo_trade at h
  refine lv_aload_n hx hb zd_Mo_trade_0 rfl (lv_at hl 0 rfl) ?_
  obtain ⟨b2, e1, h⟩ := zb_o h
  refine za_getr hx hb hts hown hK hI zl_Mo_77 e1 zd_Mo_trade_1 ?_
  refine lv_iload_n hx hb zd_Mo_trade_4 rfl (lv_at hl 2 rfl) ?_
  obtain ⟨v3, e4, h⟩ := zb_o h
  refine za_iald hx hb hK hI e4 zd_Mo_trade_5 ?_
  refine lv_istore_n (lv' := [(3, .int v3), (0, .ref ay0), (1, .int xy1), (2, .int xy2)]) hx hb zd_Mo_trade_6 rfl hl (Nat.le_of_ble_eq_true rfl) rfl (fun ls hl => ?_)
  refine lv_iconst (v := nI 1) hx hb zd_Mo_trade_7 (by decide) ?_
  refine lv_istore (lv' := [(4, .int (nI 1)), (3, .int v3), (0, .ref ay0), (1, .int xy1), (2, .int xy2)]) hx hb zd_Mo_trade_8 hl (Nat.le_of_ble_eq_true rfl) rfl (fun ls hl => ?_)
  refine lv_iconst (v := nI 0) hx hb zd_Mo_trade_10 (by decide) ?_
  refine lv_istore (lv' := [(5, .int (nI 0)), (4, .int (nI 1)), (3, .int v3), (0, .ref ay0), (1, .int xy1), (2, .int xy2)]) hx hb zd_Mo_trade_11 hl (Nat.le_of_ble_eq_true rfl) rfl (fun ls hl => ?_)
  exact B13 1101 _ _ ls ay0 xy1 xy2 v3 (nI 1) (nI 0) σ hI (lv_sub hl [3, 4, 5, 2, 1, 0] rfl) h

def zf_Mo_carry (ay0 : Nat) (xy1 : Int32) (xy2 : Int32) (σ : za_h) : Option (Unit × za_h) :=
  (zg_r σ ay0 10 22).bind fun b2 =>
  (za_ld σ b2 0 xy2).bind fun v3 =>
  (zg_r σ ay0 10 26).bind fun b6 =>
  (za_ld σ b6 0 (((nI 8) * xy1) + ((nI 2) * v3))).bind fun v7 =>
  if v7 = 0 then
  (some ((), σ))
  else
  ((zg_r σ ay0 10 26).bind fun b11 =>
  (za_ld σ b11 0 (((nI 8) * xy1) + ((nI 2) * v3))).bind fun v12 =>
  (za_st σ b11 0 (((nI 8) * xy1) + ((nI 2) * v3)) (v12 - (nI 1))).bind fun σ14 =>
  (zg_r σ14 ay0 10 21).bind fun b17 =>
  (za_ld σ14 b17 0 xy2).bind fun v18 =>
  if v18 = (nI 1) then
  ((zg_c σ14 ay0 10).bind fun _ =>
  (zf_Mo_trade ay0 xy1 xy2 σ14).bind fun (_, σ60) =>
  some ((), σ60))
  else
  ((zg_r σ14 ay0 10 23).bind fun b22 =>
  (za_ld σ14 b22 0 xy2).bind fun v23 =>
  (zg_r σ14 ay0 10 26).bind fun b26 =>
  (za_ld σ14 b26 0 ((((nI 8) * xy1) + ((nI 2) * v3)) + v23)).bind fun v27 =>
  (zg_r σ14 ay0 10 25).bind fun b30 =>
  (za_ld σ14 b30 0 xy2).bind fun v31 =>
  if v31 ≤ v27 then
  ((zg_r σ14 ay0 10 26).bind fun b35 =>
  (za_ld σ14 b35 0 ((((nI 8) * xy1) + ((nI 2) * v3)) + v23)).bind fun v36 =>
  (zg_r σ14 ay0 10 25).bind fun b39 =>
  (za_ld σ14 b39 0 xy2).bind fun v40 =>
  (za_st σ14 b35 0 ((((nI 8) * xy1) + ((nI 2) * v3)) + v23) (v36 - v40)).bind fun σ42 =>
  (zg_r σ42 ay0 10 26).bind fun b45 =>
  (zg_r σ42 ay0 10 24).bind fun b47 =>
  (za_ld σ42 b47 0 xy2).bind fun v48 =>
  (za_ld σ42 b45 0 ((((nI 8) * xy1) + ((nI 2) * v48)) + v23)).bind fun v50 =>
  (zg_r σ42 ay0 10 25).bind fun b53 =>
  (za_ld σ42 b53 0 xy2).bind fun v54 =>
  (za_st σ42 b45 0 ((((nI 8) * xy1) + ((nI 2) * v48)) + v23) (v50 + v54)).bind fun σ56 =>
  some ((), σ56))
  else
  (some ((), σ14))))
set_option maxRecDepth 100000 in
set_option maxHeartbeats 4000000 in
theorem zm_Mo_carry {l : Launch} {D : va_G} {ca : Nat → ClassId} {n0 : Nat} {ay0 : Nat} {xy1 : Int32} {xy2 : Int32} {σ σ' : za_h} {r : Unit} (h : zf_Mo_carry ay0 xy1 xy2 σ = some (r, σ')) : Met l zy_Mo_carry (za_wy zy_Mo_carry zc_Mo_carry 5 none) { frames := 2, cells := 0, slots := 0, locals := 57 } (za_Pc D ca n0 [.ref ay0, .int xy1, .int xy2] σ) (za_Qv D ca n0 r σ') 0 0 (za_A n0) := by
  refine za_met (by decide) (Nat.le_of_ble_eq_true rfl) ?_
  intro p e s m below meth c ls hx hb hml hr hlk hts hown hnm hK hI hl
  replace hown : s.vm.findClass zR_Mo = some m.cls := hown
  replace hl : lv_has ls 5 [(0, .ref ay0), (1, .int xy1), (2, .int xy2)] := hl
  unfold zf_Mo_carry at h
  refine lv_bipush (v := nI 8) hx hb zd_Mo_carry_0 (by decide) ?_
  refine lv_iload_n hx hb zd_Mo_carry_2 rfl (lv_at hl 1 rfl) ?_
  refine lv_imul hx hb zd_Mo_carry_3 ?_
  refine lv_iconst (v := nI 2) hx hb zd_Mo_carry_4 (by decide) ?_
  refine lv_aload_n hx hb zd_Mo_carry_5 rfl (lv_at hl 0 rfl) ?_
  obtain ⟨b2, e1, h⟩ := zb_o h
  refine za_getr hx hb hts hown hK hI zl_Mo_68 e1 zd_Mo_carry_6 ?_
  refine lv_iload_n hx hb zd_Mo_carry_9 rfl (lv_at hl 2 rfl) ?_
  obtain ⟨v3, e4, h⟩ := zb_o h
  refine za_iald hx hb hK hI e4 zd_Mo_carry_10 ?_
  refine lv_imul hx hb zd_Mo_carry_11 ?_
  refine lv_iadd hx hb zd_Mo_carry_12 ?_
  refine lv_istore_n (lv' := [(3, .int (((nI 8) * xy1) + ((nI 2) * v3))), (0, .ref ay0), (1, .int xy1), (2, .int xy2)]) hx hb zd_Mo_carry_13 rfl hl (Nat.le_of_ble_eq_true rfl) rfl (fun ls hl => ?_)
  refine lv_aload_n hx hb zd_Mo_carry_14 rfl (lv_at hl 1 rfl) ?_
  obtain ⟨b6, e5, h⟩ := zb_o h
  refine za_getr hx hb hts hown hK hI zl_Mo_80 e5 zd_Mo_carry_15 ?_
  refine lv_iload_n hx hb zd_Mo_carry_18 rfl (lv_at hl 0 rfl) ?_
  obtain ⟨v7, e8, h⟩ := zb_o h
  refine za_iald hx hb hK hI e8 zd_Mo_carry_19 ?_
  refine lv_if_ne hx hb (tgt := 24) zd_Mo_carry_20 (by decide) (fun c9 => ?_) (fun c9 => ?_)
  · replace h := zb_f c9 h
    refine lv_aload_n hx hb zd_Mo_carry_24 rfl (lv_at hl 1 rfl) ?_
    obtain ⟨b11, e10, h⟩ := zb_o h
    refine za_getr hx hb hts hown hK hI zl_Mo_80 e10 zd_Mo_carry_25 ?_
    refine lv_iload_n hx hb zd_Mo_carry_28 rfl (lv_at hl 0 rfl) ?_
    refine lv_dup2_11 hx hb zd_Mo_carry_29 rfl rfl ?_
    obtain ⟨v12, e13, h⟩ := zb_o h
    refine za_iald hx hb hK hI e13 zd_Mo_carry_30 ?_
    refine lv_iconst (v := nI 1) hx hb zd_Mo_carry_31 (by decide) ?_
    refine lv_isub hx hb zd_Mo_carry_32 ?_
    obtain ⟨σ14, e15, h⟩ := zb_o h
    refine za_iast hx hb hK hI e15 zd_Mo_carry_33 (fun H locs hI => ?_)
    refine lv_aload_n hx hb zd_Mo_carry_34 rfl (lv_at hl 1 rfl) ?_
    obtain ⟨b17, e16, h⟩ := zb_o h
    refine za_getr hx hb hts hown hK hI zl_Mo_65 e16 zd_Mo_carry_35 ?_
    refine lv_iload_n hx hb zd_Mo_carry_38 rfl (lv_at hl 3 rfl) ?_
    obtain ⟨v18, e19, h⟩ := zb_o h
    refine za_iald hx hb hK hI e19 zd_Mo_carry_39 ?_
    refine lv_iconst (v := nI 1) hx hb zd_Mo_carry_40 (by decide) ?_
    refine lv_icmp_ne hx hb (tgt := 51) zd_Mo_carry_41 (by decide) (fun c20 => ?_) (fun c20 => ?_)
    · replace h := zb_f c20 h
      refine lv_aload_n hx hb zd_Mo_carry_51 rfl (lv_at hl 1 rfl) ?_
      obtain ⟨b22, e21, h⟩ := zb_o h
      refine za_getr hx hb hts hown hK hI zl_Mo_71 e21 zd_Mo_carry_52 ?_
      refine lv_iload_n hx hb zd_Mo_carry_55 rfl (lv_at hl 3 rfl) ?_
      obtain ⟨v23, e24, h⟩ := zb_o h
      refine za_iald hx hb hK hI e24 zd_Mo_carry_56 ?_
      refine lv_istore (lv' := [(4, .int v23), (3, .int (((nI 8) * xy1) + ((nI 2) * v3))), (0, .ref ay0), (1, .int xy1), (2, .int xy2)]) hx hb zd_Mo_carry_57 hl (Nat.le_of_ble_eq_true rfl) rfl (fun ls hl => ?_)
      refine lv_aload_n hx hb zd_Mo_carry_59 rfl (lv_at hl 2 rfl) ?_
      obtain ⟨b26, e25, h⟩ := zb_o h
      refine za_getr hx hb hts hown hK hI zl_Mo_80 e25 zd_Mo_carry_60 ?_
      refine lv_iload_n hx hb zd_Mo_carry_63 rfl (lv_at hl 1 rfl) ?_
      refine lv_iload hx hb zd_Mo_carry_64 (lv_at hl 0 rfl) ?_
      refine lv_iadd hx hb zd_Mo_carry_66 ?_
      obtain ⟨v27, e28, h⟩ := zb_o h
      refine za_iald hx hb hK hI e28 zd_Mo_carry_67 ?_
      refine lv_aload_n hx hb zd_Mo_carry_68 rfl (lv_at hl 2 rfl) ?_
      obtain ⟨b30, e29, h⟩ := zb_o h
      refine za_getr hx hb hts hown hK hI zl_Mo_77 e29 zd_Mo_carry_69 ?_
      refine lv_iload_n hx hb zd_Mo_carry_72 rfl (lv_at hl 4 rfl) ?_
      obtain ⟨v31, e32, h⟩ := zb_o h
      refine za_iald hx hb hK hI e32 zd_Mo_carry_73 ?_
      refine lv_icmp_ge hx hb (tgt := 78) zd_Mo_carry_74 (by decide) (fun c33 => ?_) (fun c33 => ?_)
      · replace h := zb_t c33 h
        refine lv_aload_n hx hb zd_Mo_carry_78 rfl (lv_at hl 2 rfl) ?_
        obtain ⟨b35, e34, h⟩ := zb_o h
        refine za_getr hx hb hts hown hK hI zl_Mo_80 e34 zd_Mo_carry_79 ?_
        refine lv_iload_n hx hb zd_Mo_carry_82 rfl (lv_at hl 1 rfl) ?_
        refine lv_iload hx hb zd_Mo_carry_83 (lv_at hl 0 rfl) ?_
        refine lv_iadd hx hb zd_Mo_carry_85 ?_
        refine lv_dup2_11 hx hb zd_Mo_carry_86 rfl rfl ?_
        obtain ⟨v36, e37, h⟩ := zb_o h
        refine za_iald hx hb hK hI e37 zd_Mo_carry_87 ?_
        refine lv_aload_n hx hb zd_Mo_carry_88 rfl (lv_at hl 2 rfl) ?_
        obtain ⟨b39, e38, h⟩ := zb_o h
        refine za_getr hx hb hts hown hK hI zl_Mo_77 e38 zd_Mo_carry_89 ?_
        refine lv_iload_n hx hb zd_Mo_carry_92 rfl (lv_at hl 4 rfl) ?_
        obtain ⟨v40, e41, h⟩ := zb_o h
        refine za_iald hx hb hK hI e41 zd_Mo_carry_93 ?_
        refine lv_isub hx hb zd_Mo_carry_94 ?_
        obtain ⟨σ42, e43, h⟩ := zb_o h
        refine za_iast hx hb hK hI e43 zd_Mo_carry_95 (fun H locs hI => ?_)
        refine lv_aload_n hx hb zd_Mo_carry_96 rfl (lv_at hl 2 rfl) ?_
        obtain ⟨b45, e44, h⟩ := zb_o h
        refine za_getr hx hb hts hown hK hI zl_Mo_80 e44 zd_Mo_carry_97 ?_
        refine lv_bipush (v := nI 8) hx hb zd_Mo_carry_100 (by decide) ?_
        refine lv_iload_n hx hb zd_Mo_carry_102 rfl (lv_at hl 3 rfl) ?_
        refine lv_imul hx hb zd_Mo_carry_103 ?_
        refine lv_iconst (v := nI 2) hx hb zd_Mo_carry_104 (by decide) ?_
        refine lv_aload_n hx hb zd_Mo_carry_105 rfl (lv_at hl 2 rfl) ?_
        obtain ⟨b47, e46, h⟩ := zb_o h
        refine za_getr hx hb hts hown hK hI zl_Mo_74 e46 zd_Mo_carry_106 ?_
        refine lv_iload_n hx hb zd_Mo_carry_109 rfl (lv_at hl 4 rfl) ?_
        obtain ⟨v48, e49, h⟩ := zb_o h
        refine za_iald hx hb hK hI e49 zd_Mo_carry_110 ?_
        refine lv_imul hx hb zd_Mo_carry_111 ?_
        refine lv_iadd hx hb zd_Mo_carry_112 ?_
        refine lv_iload hx hb zd_Mo_carry_113 (lv_at hl 0 rfl) ?_
        refine lv_iadd hx hb zd_Mo_carry_115 ?_
        refine lv_dup2_11 hx hb zd_Mo_carry_116 rfl rfl ?_
        obtain ⟨v50, e51, h⟩ := zb_o h
        refine za_iald hx hb hK hI e51 zd_Mo_carry_117 ?_
        refine lv_aload_n hx hb zd_Mo_carry_118 rfl (lv_at hl 2 rfl) ?_
        obtain ⟨b53, e52, h⟩ := zb_o h
        refine za_getr hx hb hts hown hK hI zl_Mo_77 e52 zd_Mo_carry_119 ?_
        refine lv_iload_n hx hb zd_Mo_carry_122 rfl (lv_at hl 4 rfl) ?_
        obtain ⟨v54, e55, h⟩ := zb_o h
        refine za_iald hx hb hK hI e55 zd_Mo_carry_123 ?_
        refine lv_iadd hx hb zd_Mo_carry_124 ?_
        obtain ⟨σ56, e57, h⟩ := zb_o h
        refine za_iast hx hb hK hI e57 zd_Mo_carry_125 (fun H locs hI => ?_)
        exact za_vret hx hb hr hlk hI h (Nat.le_of_ble_eq_true rfl) (Nat.le_of_ble_eq_true rfl) zd_Mo_carry_126
      · replace h := zb_f c33 h
        exact za_vret hx hb hr hlk hI h (Nat.le_of_ble_eq_true rfl) (Nat.le_of_ble_eq_true rfl) zd_Mo_carry_77
    · replace h := zb_t c20 h
      refine lv_aload_n hx hb zd_Mo_carry_44 rfl (lv_at hl 1 rfl) ?_
      refine lv_iload_n hx hb zd_Mo_carry_45 rfl (lv_at hl 2 rfl) ?_
      refine lv_iload_n hx hb zd_Mo_carry_46 rfl (lv_at hl 3 rfl) ?_
      obtain ⟨_, g58, h⟩ := zb_o h
      obtain ⟨⟨r59, σ60⟩, e61, h⟩ := zb_o h
      refine za_callv (za_runV hx hb hml hown hts hK hI g58 (zm_Mo_trade e61) zj_Mo_208 ⟨rfl, rfl⟩ ⟨Nat.le_of_ble_eq_true rfl, Nat.le_of_ble_eq_true rfl⟩ rfl hl.1 rfl (Nat.le_of_ble_eq_true rfl) zd_Mo_carry_47 ⟨Nat.le_of_ble_eq_true rfl, Nat.le_of_ble_eq_true rfl⟩) hI (fun H locs hI => ?_)
      exact za_vret hx hb hr hlk hI h (Nat.le_of_ble_eq_true rfl) (Nat.le_of_ble_eq_true rfl) zd_Mo_carry_50
  · replace h := zb_t c9 h
    exact za_vret hx hb hr hlk hI h (Nat.le_of_ble_eq_true rfl) (Nat.le_of_ble_eq_true rfl) zd_Mo_carry_23

def zf_Mo_externalize_134 : Nat → Nat → Int32 → Int32 → za_h → Option (Unit × za_h)
  | 0, _, _, _, _ => none
  | n + 1, a0, x1, x4, σ =>
  if (((nI 30) * x1) + (nI 30)) ≤ x4 then
  (some ((), σ))
  else
  ((zg_r σ a0 10 13).bind fun b3 =>
  (za_st σ b3 0 x4 (nI 0)).bind fun σ4 =>
  zf_Mo_externalize_134 n a0 x1 (x4 + nI 1) σ4)

def zf_Mo_externalize_62 (k21 : Nat → Int32 → Int32 → Int32 → Int32 → za_h → Option (Unit × za_h)) (a0 : Nat) (x1 : Int32) (x2 : Int32) (x3 : Int32) (x4 : Int32) (σ : za_h) : Option (Unit × za_h) :=
  k21 a0 x1 x2 x3 (x4 + nI 1) σ

def zf_Mo_externalize_21 : Nat → Nat → Int32 → Int32 → Int32 → Int32 → za_h → Option (Unit × za_h)
  | 0, _, _, _, _, _, _ => none
  | n + 1, a0, x1, x2, x3, x4, σ =>
  if (nI 3) ≤ x4 then
  ((zg_r σ a0 10 15).bind fun b3 =>
  (zg_r σ a0 10 15).bind fun b5 =>
  (za_ld σ b5 0 x1).bind fun v6 =>
  (za_st σ b3 0 x1 (((nI 31) * (((nI 31) * v6) + x3)) + x2)).bind fun σ8 =>
  (zg_r σ8 a0 10 7).bind fun b11 =>
  (za_ld σ8 b11 0 x1).bind fun v12 =>
  (za_st σ8 b11 0 x1 (v12 + (nI 1))).bind fun σ14 =>
  (zg_r σ14 a0 10 8).bind fun b17 =>
  (za_st σ14 b17 0 x1 (nI 0)).bind fun σ18 =>
  (zg_r σ18 a0 10 9).bind fun b21 =>
  (za_st σ18 b21 0 x1 (nI 0)).bind fun σ22 =>
  (zg_r σ22 a0 10 10).bind fun b25 =>
  (za_st σ22 b25 0 x1 (nI 0)).bind fun σ26 =>
  (zg_r σ26 a0 10 11).bind fun b29 =>
  (za_st σ26 b29 0 x1 (nI 0)).bind fun σ30 =>
  zf_Mo_externalize_134 31 a0 x1 ((nI 30) * x1) σ30)
  else
  (if ((x2 >>> (x4 &&& 31)) &&& (nI 1)) = (nI 1) then
  ((zg_r σ a0 10 20).bind fun b34 =>
  (za_ld σ b34 1 (((nI 3) * x3) + x4)).bind fun v35 =>
  if v35 = 0 then
  (zf_Mo_externalize_62 (zf_Mo_externalize_21 n) a0 x1 x2 x3 x4 σ)
  else
  ((zg_c σ a0 10).bind fun _ =>
  (zf_Mo_carry a0 x1 (((nI 3) * x3) + x4) σ).bind fun (_, σ40) =>
  zf_Mo_externalize_62 (zf_Mo_externalize_21 n) a0 x1 x2 x3 x4 σ40))
  else
  (zf_Mo_externalize_62 (zf_Mo_externalize_21 n) a0 x1 x2 x3 x4 σ))

def zf_Mo_externalize (ay0 : Nat) (xy1 : Int32) (xy2 : Int32) (σ : za_h) : Option (Unit × za_h) :=
  (zg_r σ ay0 10 7).bind fun b2 =>
  (za_ld σ b2 0 xy1).bind fun v3 =>
  (zg_r σ ay0 10 14).bind fun b6 =>
  (za_st σ b6 0 (((nI 3) * xy1) + v3) xy2).bind fun σ7 =>
  zf_Mo_externalize_21 31 ay0 xy1 xy2 v3 (nI 0) σ7
set_option maxRecDepth 100000 in
set_option maxHeartbeats 4000000 in
theorem zm_Mo_externalize {l : Launch} {D : va_G} {ca : Nat → ClassId} {n0 : Nat} {ay0 : Nat} {xy1 : Int32} {xy2 : Int32} {σ σ' : za_h} {r : Unit} (h : zf_Mo_externalize ay0 xy1 xy2 σ = some (r, σ')) : Met l zy_Mo_externalize (za_wy zy_Mo_externalize zc_Mo_externalize 5 none) { frames := 3, cells := 0, slots := 0, locals := 81 } (za_Pc D ca n0 [.ref ay0, .int xy1, .int xy2] σ) (za_Qv D ca n0 r σ') 0 0 (za_A n0) := by
  refine za_met (by decide) (Nat.le_of_ble_eq_true rfl) ?_
  intro p e s m below meth c ls hx hb hml hr hlk hts hown hnm hK hI hl
  replace hown : s.vm.findClass zR_Mo = some m.cls := hown
  replace hl : lv_has ls 5 [(0, .ref ay0), (1, .int xy1), (2, .int xy2)] := hl
  have B134 : ∀ n : Nat, ∀ (H : Heap) (locs : List Loc) (ls : Array Slot) (a0 : Nat) (x1 : Int32) (x4 : Int32) (σ : za_h), za_I D ca n0 s σ H locs → lv_has ls 5 [(0, .ref a0), (1, .int x1), (4, .int x4)] → zf_Mo_externalize_134 n a0 x1 x4 σ = some (r, σ') → W p l e ({ frames := 3, cells := 0, slots := 0, locals := 81 }) s m ([.ref ay0, .int xy1, .int xy2] : List Value).toArray below meth c H locs 0 0 (MQ below (za_Qv D ca n0 r σ') ([.ref ay0, .int xy1, .int xy2] : List Value).toArray s 0 0 (za_A n0)) (F0 m 134 ls []) := by
    intro n
    induction n with
    | zero => intro H locs ls a0 x1 x4 σ hI hl h; rw [zf_Mo_externalize_134] at h; cases h
    | succ n ih =>
      intro H locs ls a0 x1 x4 σ hI hl h
      rw [zf_Mo_externalize_134] at h
      refine lv_iload hx hb zd_Mo_externalize_134 (lv_at hl 2 rfl) ?_
      refine lv_bipush (v := nI 30) hx hb zd_Mo_externalize_136 (by decide) ?_
      refine lv_iload_n hx hb zd_Mo_externalize_138 rfl (lv_at hl 1 rfl) ?_
      refine lv_imul hx hb zd_Mo_externalize_139 ?_
      refine lv_bipush (v := nI 30) hx hb zd_Mo_externalize_140 (by decide) ?_
      refine lv_iadd hx hb zd_Mo_externalize_142 ?_
      refine lv_icmp_ge hx hb (tgt := 160) zd_Mo_externalize_143 (by decide) (fun c1 => ?_) (fun c1 => ?_)
      · replace h := zb_t c1 h
        exact za_vret hx hb hr hlk hI h (Nat.le_of_ble_eq_true rfl) (Nat.le_of_ble_eq_true rfl) zd_Mo_externalize_160
      · replace h := zb_f c1 h
        refine lv_aload_n hx hb zd_Mo_externalize_146 rfl (lv_at hl 0 rfl) ?_
        obtain ⟨b3, e2, h⟩ := zb_o h
        refine za_getr hx hb hts hown hK hI zl_Mo_44 e2 zd_Mo_externalize_147 ?_
        refine lv_iload hx hb zd_Mo_externalize_150 (lv_at hl 2 rfl) ?_
        refine lv_iconst (v := nI 0) hx hb zd_Mo_externalize_152 (by decide) ?_
        obtain ⟨σ4, e5, h⟩ := zb_o h
        refine za_iast hx hb hK hI e5 zd_Mo_externalize_153 (fun H locs hI => ?_)
        refine lv_iinc (k := 2) (v := (x4 + nI 1)) (lv' := [(4, .int (x4 + nI 1)), (0, .ref a0), (1, .int x1)]) hx hb zd_Mo_externalize_154 hl rfl rfl (Nat.le_of_ble_eq_true rfl) rfl (fun ls hl => ?_)
        refine lv_goto hx hb (tgt := 134) zd_Mo_externalize_157 (by decide) ?_
        exact ih _ _ ls a0 x1 (x4 + nI 1) σ4 hI (lv_sub hl [1, 2, 0] rfl) h
  have B62 : ∀ (k21 : Nat → Int32 → Int32 → Int32 → Int32 → za_h → Option (Unit × za_h)), (∀ (H : Heap) (locs : List Loc) (ls : Array Slot) (a0 : Nat) (x1 : Int32) (x2 : Int32) (x3 : Int32) (x4 : Int32) (σ : za_h), za_I D ca n0 s σ H locs → lv_has ls 5 [(0, .ref a0), (1, .int x1), (2, .int x2), (3, .int x3), (4, .int x4)] → k21 a0 x1 x2 x3 x4 σ = some (r, σ') → W p l e ({ frames := 3, cells := 0, slots := 0, locals := 81 }) s m ([.ref ay0, .int xy1, .int xy2] : List Value).toArray below meth c H locs 0 0 (MQ below (za_Qv D ca n0 r σ') ([.ref ay0, .int xy1, .int xy2] : List Value).toArray s 0 0 (za_A n0)) (F0 m 21 ls [])) → ∀ (H : Heap) (locs : List Loc) (ls : Array Slot) (a0 : Nat) (x1 : Int32) (x2 : Int32) (x3 : Int32) (x4 : Int32) (σ : za_h), za_I D ca n0 s σ H locs → lv_has ls 5 [(0, .ref a0), (1, .int x1), (2, .int x2), (3, .int x3), (4, .int x4)] → zf_Mo_externalize_62 k21 a0 x1 x2 x3 x4 σ = some (r, σ') → W p l e ({ frames := 3, cells := 0, slots := 0, locals := 81 }) s m ([.ref ay0, .int xy1, .int xy2] : List Value).toArray below meth c H locs 0 0 (MQ below (za_Qv D ca n0 r σ') ([.ref ay0, .int xy1, .int xy2] : List Value).toArray s 0 0 (za_A n0)) (F0 m 62 ls []) := by
    intro k21 hk21 H locs ls a0 x1 x2 x3 x4 σ hI hl h
    unfold zf_Mo_externalize_62 at h
    refine lv_iinc (k := 4) (v := (x4 + nI 1)) (lv' := [(4, .int (x4 + nI 1)), (0, .ref a0), (1, .int x1), (2, .int x2), (3, .int x3)]) hx hb zd_Mo_externalize_62 hl rfl rfl (Nat.le_of_ble_eq_true rfl) rfl (fun ls hl => ?_)
    refine lv_goto hx hb (tgt := 21) zd_Mo_externalize_65 (by decide) ?_
    exact hk21 _ _ ls a0 x1 x2 x3 (x4 + nI 1) σ hI (lv_sub hl [1, 2, 3, 4, 0] rfl) h
  have B21 : ∀ n : Nat, ∀ (H : Heap) (locs : List Loc) (ls : Array Slot) (a0 : Nat) (x1 : Int32) (x2 : Int32) (x3 : Int32) (x4 : Int32) (σ : za_h), za_I D ca n0 s σ H locs → lv_has ls 5 [(0, .ref a0), (1, .int x1), (2, .int x2), (3, .int x3), (4, .int x4)] → zf_Mo_externalize_21 n a0 x1 x2 x3 x4 σ = some (r, σ') → W p l e ({ frames := 3, cells := 0, slots := 0, locals := 81 }) s m ([.ref ay0, .int xy1, .int xy2] : List Value).toArray below meth c H locs 0 0 (MQ below (za_Qv D ca n0 r σ') ([.ref ay0, .int xy1, .int xy2] : List Value).toArray s 0 0 (za_A n0)) (F0 m 21 ls []) := by
    intro n
    induction n with
    | zero => intro H locs ls a0 x1 x2 x3 x4 σ hI hl h; rw [zf_Mo_externalize_21] at h; cases h
    | succ n ih =>
      intro H locs ls a0 x1 x2 x3 x4 σ hI hl h
      rw [zf_Mo_externalize_21] at h
      refine lv_iload hx hb zd_Mo_externalize_21 (lv_at hl 4 rfl) ?_
      refine lv_iconst (v := nI 3) hx hb zd_Mo_externalize_23 (by decide) ?_
      refine lv_icmp_ge hx hb (tgt := 68) zd_Mo_externalize_24 (by decide) (fun c1 => ?_) (fun c1 => ?_)
      · replace h := zb_t c1 h
        refine lv_aload_n hx hb zd_Mo_externalize_68 rfl (lv_at hl 0 rfl) ?_
        obtain ⟨b3, e2, h⟩ := zb_o h
        refine za_getr hx hb hts hown hK hI zl_Mo_50 e2 zd_Mo_externalize_69 ?_
        refine lv_iload_n hx hb zd_Mo_externalize_72 rfl (lv_at hl 1 rfl) ?_
        refine lv_bipush (v := nI 31) hx hb zd_Mo_externalize_73 (by decide) ?_
        refine lv_bipush (v := nI 31) hx hb zd_Mo_externalize_75 (by decide) ?_
        refine lv_aload_n hx hb zd_Mo_externalize_77 rfl (lv_at hl 0 rfl) ?_
        obtain ⟨b5, e4, h⟩ := zb_o h
        refine za_getr hx hb hts hown hK hI zl_Mo_50 e4 zd_Mo_externalize_78 ?_
        refine lv_iload_n hx hb zd_Mo_externalize_81 rfl (lv_at hl 1 rfl) ?_
        obtain ⟨v6, e7, h⟩ := zb_o h
        refine za_iald hx hb hK hI e7 zd_Mo_externalize_82 ?_
        refine lv_imul hx hb zd_Mo_externalize_83 ?_
        refine lv_iload_n hx hb zd_Mo_externalize_84 rfl (lv_at hl 3 rfl) ?_
        refine lv_iadd hx hb zd_Mo_externalize_85 ?_
        refine lv_imul hx hb zd_Mo_externalize_86 ?_
        refine lv_iload_n hx hb zd_Mo_externalize_87 rfl (lv_at hl 2 rfl) ?_
        refine lv_iadd hx hb zd_Mo_externalize_88 ?_
        obtain ⟨σ8, e9, h⟩ := zb_o h
        refine za_iast hx hb hK hI e9 zd_Mo_externalize_89 (fun H locs hI => ?_)
        refine lv_aload_n hx hb zd_Mo_externalize_90 rfl (lv_at hl 0 rfl) ?_
        obtain ⟨b11, e10, h⟩ := zb_o h
        refine za_getr hx hb hts hown hK hI zl_Mo_26 e10 zd_Mo_externalize_91 ?_
        refine lv_iload_n hx hb zd_Mo_externalize_94 rfl (lv_at hl 1 rfl) ?_
        refine lv_dup2_11 hx hb zd_Mo_externalize_95 rfl rfl ?_
        obtain ⟨v12, e13, h⟩ := zb_o h
        refine za_iald hx hb hK hI e13 zd_Mo_externalize_96 ?_
        refine lv_iconst (v := nI 1) hx hb zd_Mo_externalize_97 (by decide) ?_
        refine lv_iadd hx hb zd_Mo_externalize_98 ?_
        obtain ⟨σ14, e15, h⟩ := zb_o h
        refine za_iast hx hb hK hI e15 zd_Mo_externalize_99 (fun H locs hI => ?_)
        refine lv_aload_n hx hb zd_Mo_externalize_100 rfl (lv_at hl 0 rfl) ?_
        obtain ⟨b17, e16, h⟩ := zb_o h
        refine za_getr hx hb hts hown hK hI zl_Mo_29 e16 zd_Mo_externalize_101 ?_
        refine lv_iload_n hx hb zd_Mo_externalize_104 rfl (lv_at hl 1 rfl) ?_
        refine lv_iconst (v := nI 0) hx hb zd_Mo_externalize_105 (by decide) ?_
        obtain ⟨σ18, e19, h⟩ := zb_o h
        refine za_iast hx hb hK hI e19 zd_Mo_externalize_106 (fun H locs hI => ?_)
        refine lv_aload_n hx hb zd_Mo_externalize_107 rfl (lv_at hl 0 rfl) ?_
        obtain ⟨b21, e20, h⟩ := zb_o h
        refine za_getr hx hb hts hown hK hI zl_Mo_32 e20 zd_Mo_externalize_108 ?_
        refine lv_iload_n hx hb zd_Mo_externalize_111 rfl (lv_at hl 1 rfl) ?_
        refine lv_iconst (v := nI 0) hx hb zd_Mo_externalize_112 (by decide) ?_
        obtain ⟨σ22, e23, h⟩ := zb_o h
        refine za_iast hx hb hK hI e23 zd_Mo_externalize_113 (fun H locs hI => ?_)
        refine lv_aload_n hx hb zd_Mo_externalize_114 rfl (lv_at hl 0 rfl) ?_
        obtain ⟨b25, e24, h⟩ := zb_o h
        refine za_getr hx hb hts hown hK hI zl_Mo_35 e24 zd_Mo_externalize_115 ?_
        refine lv_iload_n hx hb zd_Mo_externalize_118 rfl (lv_at hl 1 rfl) ?_
        refine lv_iconst (v := nI 0) hx hb zd_Mo_externalize_119 (by decide) ?_
        obtain ⟨σ26, e27, h⟩ := zb_o h
        refine za_iast hx hb hK hI e27 zd_Mo_externalize_120 (fun H locs hI => ?_)
        refine lv_aload_n hx hb zd_Mo_externalize_121 rfl (lv_at hl 0 rfl) ?_
        obtain ⟨b29, e28, h⟩ := zb_o h
        refine za_getr hx hb hts hown hK hI zl_Mo_38 e28 zd_Mo_externalize_122 ?_
        refine lv_iload_n hx hb zd_Mo_externalize_125 rfl (lv_at hl 1 rfl) ?_
        refine lv_iconst (v := nI 0) hx hb zd_Mo_externalize_126 (by decide) ?_
        obtain ⟨σ30, e31, h⟩ := zb_o h
        refine za_iast hx hb hK hI e31 zd_Mo_externalize_127 (fun H locs hI => ?_)
        refine lv_bipush (v := nI 30) hx hb zd_Mo_externalize_128 (by decide) ?_
        refine lv_iload_n hx hb zd_Mo_externalize_130 rfl (lv_at hl 1 rfl) ?_
        refine lv_imul hx hb zd_Mo_externalize_131 ?_
        refine lv_istore (lv' := [(4, .int ((nI 30) * x1)), (0, .ref a0), (1, .int x1), (2, .int x2), (3, .int x3)]) hx hb zd_Mo_externalize_132 hl (Nat.le_of_ble_eq_true rfl) rfl (fun ls hl => ?_)
        exact B134 31 _ _ ls a0 x1 ((nI 30) * x1) σ30 hI (lv_sub hl [1, 2, 0] rfl) h
      · replace h := zb_f c1 h
        refine lv_iload_n hx hb zd_Mo_externalize_27 rfl (lv_at hl 2 rfl) ?_
        refine lv_iload hx hb zd_Mo_externalize_28 (lv_at hl 4 rfl) ?_
        refine lv_ishr hx hb zd_Mo_externalize_30 ?_
        refine lv_iconst (v := nI 1) hx hb zd_Mo_externalize_31 (by decide) ?_
        refine lv_iand hx hb zd_Mo_externalize_32 ?_
        refine lv_iconst (v := nI 1) hx hb zd_Mo_externalize_33 (by decide) ?_
        refine lv_icmp_ne hx hb (tgt := 62) zd_Mo_externalize_34 (by decide) (fun c32 => ?_) (fun c32 => ?_)
        · replace h := zb_f c32 h
          exact B62 _ ih _ _ ls a0 x1 x2 x3 x4 σ hI (lv_sub hl [0, 1, 2, 3, 4] rfl) h
        · replace h := zb_t c32 h
          refine lv_aload_n hx hb zd_Mo_externalize_37 rfl (lv_at hl 0 rfl) ?_
          obtain ⟨b34, e33, h⟩ := zb_o h
          refine za_getr hx hb hts hown hK hI zl_Mo_62 e33 zd_Mo_externalize_38 ?_
          refine lv_iconst (v := nI 3) hx hb zd_Mo_externalize_41 (by decide) ?_
          refine lv_iload_n hx hb zd_Mo_externalize_42 rfl (lv_at hl 3 rfl) ?_
          refine lv_imul hx hb zd_Mo_externalize_43 ?_
          refine lv_iload hx hb zd_Mo_externalize_44 (lv_at hl 4 rfl) ?_
          refine lv_iadd hx hb zd_Mo_externalize_46 ?_
          obtain ⟨v35, e36, h⟩ := zb_o h
          refine za_zald hx hb hK hI e36 zd_Mo_externalize_47 ?_
          refine lv_if_eq hx hb (tgt := 62) zd_Mo_externalize_48 (by decide) (fun c37 => ?_) (fun c37 => ?_)
          · replace h := zb_t c37 h
            exact B62 _ ih _ _ ls a0 x1 x2 x3 x4 σ hI (lv_sub hl [0, 1, 2, 3, 4] rfl) h
          · replace h := zb_f c37 h
            refine lv_aload_n hx hb zd_Mo_externalize_51 rfl (lv_at hl 0 rfl) ?_
            refine lv_iload_n hx hb zd_Mo_externalize_52 rfl (lv_at hl 1 rfl) ?_
            refine lv_iconst (v := nI 3) hx hb zd_Mo_externalize_53 (by decide) ?_
            refine lv_iload_n hx hb zd_Mo_externalize_54 rfl (lv_at hl 3 rfl) ?_
            refine lv_imul hx hb zd_Mo_externalize_55 ?_
            refine lv_iload hx hb zd_Mo_externalize_56 (lv_at hl 4 rfl) ?_
            refine lv_iadd hx hb zd_Mo_externalize_58 ?_
            obtain ⟨_, g38, h⟩ := zb_o h
            obtain ⟨⟨r39, σ40⟩, e41, h⟩ := zb_o h
            refine za_callv (za_runV hx hb hml hown hts hK hI g38 (zm_Mo_carry e41) zj_Mo_187 ⟨rfl, rfl⟩ ⟨Nat.le_of_ble_eq_true rfl, Nat.le_of_ble_eq_true rfl⟩ rfl hl.1 rfl (Nat.le_of_ble_eq_true rfl) zd_Mo_externalize_59 ⟨Nat.le_of_ble_eq_true rfl, Nat.le_of_ble_eq_true rfl⟩) hI (fun H locs hI => ?_)
            exact B62 _ ih _ _ ls a0 x1 x2 x3 x4 σ40 hI (lv_sub hl [0, 1, 2, 3, 4] rfl) h
  unfold zf_Mo_externalize at h
  refine lv_aload_n hx hb zd_Mo_externalize_0 rfl (lv_at hl 0 rfl) ?_
  obtain ⟨b2, e1, h⟩ := zb_o h
  refine za_getr hx hb hts hown hK hI zl_Mo_26 e1 zd_Mo_externalize_1 ?_
  refine lv_iload_n hx hb zd_Mo_externalize_4 rfl (lv_at hl 1 rfl) ?_
  obtain ⟨v3, e4, h⟩ := zb_o h
  refine za_iald hx hb hK hI e4 zd_Mo_externalize_5 ?_
  refine lv_istore_n (lv' := [(3, .int v3), (0, .ref ay0), (1, .int xy1), (2, .int xy2)]) hx hb zd_Mo_externalize_6 rfl hl (Nat.le_of_ble_eq_true rfl) rfl (fun ls hl => ?_)
  refine lv_aload_n hx hb zd_Mo_externalize_7 rfl (lv_at hl 1 rfl) ?_
  obtain ⟨b6, e5, h⟩ := zb_o h
  refine za_getr hx hb hts hown hK hI zl_Mo_47 e5 zd_Mo_externalize_8 ?_
  refine lv_iconst (v := nI 3) hx hb zd_Mo_externalize_11 (by decide) ?_
  refine lv_iload_n hx hb zd_Mo_externalize_12 rfl (lv_at hl 2 rfl) ?_
  refine lv_imul hx hb zd_Mo_externalize_13 ?_
  refine lv_iload_n hx hb zd_Mo_externalize_14 rfl (lv_at hl 0 rfl) ?_
  refine lv_iadd hx hb zd_Mo_externalize_15 ?_
  refine lv_iload_n hx hb zd_Mo_externalize_16 rfl (lv_at hl 3 rfl) ?_
  obtain ⟨σ7, e8, h⟩ := zb_o h
  refine za_iast hx hb hK hI e8 zd_Mo_externalize_17 (fun H locs hI => ?_)
  refine lv_iconst (v := nI 0) hx hb zd_Mo_externalize_18 (by decide) ?_
  refine lv_istore (lv' := [(4, .int (nI 0)), (3, .int v3), (0, .ref ay0), (1, .int xy1), (2, .int xy2)]) hx hb zd_Mo_externalize_19 hl (Nat.le_of_ble_eq_true rfl) rfl (fun ls hl => ?_)
  exact B21 31 _ _ ls ay0 xy1 xy2 v3 (nI 0) σ7 hI (lv_sub hl [2, 3, 4, 1, 0] rfl) h

def zf_Mo_ruleH_30 (k4 : Nat → Int32 → Int32 → Int32 → za_h → Option (Int32 × za_h)) (a0 : Nat) (x1 : Int32) (x3 : Int32) (xs0 : Int32) (σ : za_h) : Option (Int32 × za_h) :=
  (zg_c σ a0 10).bind fun _ =>
  (zf_Mo_mayConfirm a0 x1 (nI 2) x3 σ).bind fun (r2, σ3) =>
  if r2 = 0 then
  (k4 a0 x1 xs0 (x3 + nI 1) σ3)
  else
  ((zg_c σ3 a0 10).bind fun _ =>
  (zf_Mo_put a0 x1 (nI 2) (nI 2) x3 σ3).bind fun (r7, σ8) =>
  (zf_Mo_worth x3 σ8).bind fun (r10, σ11) =>
  (zg_c σ11 a0 10).bind fun _ =>
  (zf_Mo_externalize a0 x1 r10 σ11).bind fun (_, σ15) =>
  some ((nI 2), σ15))

def zf_Mo_ruleH_4 : Nat → Nat → Int32 → Int32 → Int32 → za_h → Option (Int32 × za_h)
  | 0, _, _, _, _, _ => none
  | n + 1, a0, x1, x2, x3, σ =>
  if (nI 28) ≤ x3 then
  (some (x2, σ))
  else
  ((zg_c σ a0 10).bind fun _ =>
  (zf_Mo_accept a0 x1 (nI 2) x3 x3 σ).bind fun (r3, σ4) =>
  if r3 = 0 then
  (zf_Mo_ruleH_30 (zf_Mo_ruleH_4 n) a0 x1 x3 x2 σ4)
  else
  (zf_Mo_ruleH_30 (zf_Mo_ruleH_4 n) a0 x1 x3 (nI 1) σ4))

def zf_Mo_ruleH (ay0 : Nat) (xy1 : Int32) (σ : za_h) : Option (Int32 × za_h) :=
  zf_Mo_ruleH_4 29 ay0 xy1 (nI 0) (nI 0) σ
set_option maxRecDepth 100000 in
set_option maxHeartbeats 4000000 in
theorem zm_Mo_ruleH {l : Launch} {D : va_G} {ca : Nat → ClassId} {n0 : Nat} {ay0 : Nat} {xy1 : Int32} {σ σ' : za_h} {r : Int32} (h : zf_Mo_ruleH ay0 xy1 σ = some (r, σ')) : Met l zy_Mo_ruleH (za_wy zy_Mo_ruleH zc_Mo_ruleH 5 (some .int)) { frames := 5, cells := 0, slots := 0, locals := 128 } (za_Pc D ca n0 [.ref ay0, .int xy1] σ) (za_Qi D ca n0 r σ') 0 0 (za_A n0) := by
  refine za_met (by decide) (Nat.le_of_ble_eq_true rfl) ?_
  intro p e s m below meth c ls hx hb hml hr hlk hts hown hnm hK hI hl
  replace hown : s.vm.findClass zR_Mo = some m.cls := hown
  replace hl : lv_has ls 5 [(0, .ref ay0), (1, .int xy1)] := hl
  have B30 : ∀ (k4 : Nat → Int32 → Int32 → Int32 → za_h → Option (Int32 × za_h)), (∀ (H : Heap) (locs : List Loc) (ls : Array Slot) (a0 : Nat) (x1 : Int32) (x2 : Int32) (x3 : Int32) (σ : za_h), za_I D ca n0 s σ H locs → lv_has ls 5 [(0, .ref a0), (1, .int x1), (2, .int x2), (3, .int x3)] → k4 a0 x1 x2 x3 σ = some (r, σ') → W p l e ({ frames := 5, cells := 0, slots := 0, locals := 128 }) s m ([.ref ay0, .int xy1] : List Value).toArray below meth c H locs 0 0 (MQ below (za_Qi D ca n0 r σ') ([.ref ay0, .int xy1] : List Value).toArray s 0 0 (za_A n0)) (F0 m 4 ls [])) → ∀ (H : Heap) (locs : List Loc) (ls : Array Slot) (a0 : Nat) (x1 : Int32) (x3 : Int32) (xs0 : Int32) (σ : za_h), za_I D ca n0 s σ H locs → lv_has ls 5 [(0, .ref a0), (1, .int x1), (3, .int x3)] → zf_Mo_ruleH_30 k4 a0 x1 x3 xs0 σ = some (r, σ') → W p l e ({ frames := 5, cells := 0, slots := 0, locals := 128 }) s m ([.ref ay0, .int xy1] : List Value).toArray below meth c H locs 0 0 (MQ below (za_Qi D ca n0 r σ') ([.ref ay0, .int xy1] : List Value).toArray s 0 0 (za_A n0)) (F0 m 30 ls [.int xs0]) := by
    intro k4 hk4 H locs ls a0 x1 x3 xs0 σ hI hl h
    unfold zf_Mo_ruleH_30 at h
    refine lv_istore_n (lv' := [(2, .int xs0), (0, .ref a0), (1, .int x1), (3, .int x3)]) hx hb zd_Mo_ruleH_30 rfl hl (Nat.le_of_ble_eq_true rfl) rfl (fun ls hl => ?_)
    refine lv_aload_n hx hb zd_Mo_ruleH_31 rfl (lv_at hl 1 rfl) ?_
    refine lv_iload_n hx hb zd_Mo_ruleH_32 rfl (lv_at hl 2 rfl) ?_
    refine lv_iconst (v := nI 2) hx hb zd_Mo_ruleH_33 (by decide) ?_
    refine lv_iload_n hx hb zd_Mo_ruleH_34 rfl (lv_at hl 3 rfl) ?_
    obtain ⟨_, g1, h⟩ := zb_o h
    obtain ⟨⟨r2, σ3⟩, e4, h⟩ := zb_o h
    refine za_calli (za_runV hx hb hml hown hts hK hI g1 (zm_Mo_mayConfirm e4) zj_Mo_158 ⟨rfl, rfl⟩ ⟨Nat.le_of_ble_eq_true rfl, Nat.le_of_ble_eq_true rfl⟩ rfl hl.1 rfl (Nat.le_of_ble_eq_true rfl) zd_Mo_ruleH_35 ⟨Nat.le_of_ble_eq_true rfl, Nat.le_of_ble_eq_true rfl⟩) hI (fun H locs hI => ?_)
    refine lv_if_eq hx hb (tgt := 61) zd_Mo_ruleH_38 (by decide) (fun c5 => ?_) (fun c5 => ?_)
    · replace h := zb_t c5 h
      refine lv_iinc (k := 3) (v := (x3 + nI 1)) (lv' := [(3, .int (x3 + nI 1)), (2, .int xs0), (0, .ref a0), (1, .int x1)]) hx hb zd_Mo_ruleH_61 hl rfl rfl (Nat.le_of_ble_eq_true rfl) rfl (fun ls hl => ?_)
      refine lv_goto hx hb (tgt := 4) zd_Mo_ruleH_64 (by decide) ?_
      exact hk4 _ _ ls a0 x1 xs0 (x3 + nI 1) σ3 hI (lv_sub hl [2, 3, 1, 0] rfl) h
    · replace h := zb_f c5 h
      refine lv_aload_n hx hb zd_Mo_ruleH_41 rfl (lv_at hl 1 rfl) ?_
      refine lv_iload_n hx hb zd_Mo_ruleH_42 rfl (lv_at hl 2 rfl) ?_
      refine lv_iconst (v := nI 2) hx hb zd_Mo_ruleH_43 (by decide) ?_
      refine lv_iconst (v := nI 2) hx hb zd_Mo_ruleH_44 (by decide) ?_
      refine lv_iload_n hx hb zd_Mo_ruleH_45 rfl (lv_at hl 3 rfl) ?_
      obtain ⟨_, g6, h⟩ := zb_o h
      obtain ⟨⟨r7, σ8⟩, e9, h⟩ := zb_o h
      refine za_calli (za_runV hx hb hml hown hts hK hI g6 (zm_Mo_put e9) zj_Mo_152 ⟨rfl, rfl⟩ ⟨Nat.le_of_ble_eq_true rfl, Nat.le_of_ble_eq_true rfl⟩ rfl hl.1 rfl (Nat.le_of_ble_eq_true rfl) zd_Mo_ruleH_46 ⟨Nat.le_of_ble_eq_true rfl, Nat.le_of_ble_eq_true rfl⟩) hI (fun H locs hI => ?_)
      refine lv_pop hx hb zd_Mo_ruleH_49 rfl ?_
      refine lv_aload_n hx hb zd_Mo_ruleH_50 rfl (lv_at hl 1 rfl) ?_
      refine lv_iload_n hx hb zd_Mo_ruleH_51 rfl (lv_at hl 2 rfl) ?_
      refine lv_iload_n hx hb zd_Mo_ruleH_52 rfl (lv_at hl 3 rfl) ?_
      obtain ⟨⟨r10, σ11⟩, e12, h⟩ := zb_o h
      refine za_calli (za_runS hx hb hml hown hts hK hI (zm_Mo_worth e12) zj_Mo_129 ⟨rfl, rfl⟩ ⟨Nat.le_of_ble_eq_true rfl, Nat.le_of_ble_eq_true rfl⟩ rfl hl.1 rfl (Nat.le_of_ble_eq_true rfl) zd_Mo_ruleH_53 ⟨Nat.le_of_ble_eq_true rfl, Nat.le_of_ble_eq_true rfl⟩) hI (fun H locs hI => ?_)
      obtain ⟨_, g13, h⟩ := zb_o h
      obtain ⟨⟨r14, σ15⟩, e16, h⟩ := zb_o h
      refine za_callv (za_runV hx hb hml hown hts hK hI g13 (zm_Mo_externalize e16) zj_Mo_168 ⟨rfl, rfl⟩ ⟨Nat.le_of_ble_eq_true rfl, Nat.le_of_ble_eq_true rfl⟩ rfl hl.1 rfl (Nat.le_of_ble_eq_true rfl) zd_Mo_ruleH_56 ⟨Nat.le_of_ble_eq_true rfl, Nat.le_of_ble_eq_true rfl⟩) hI (fun H locs hI => ?_)
      refine lv_iconst (v := nI 2) hx hb zd_Mo_ruleH_59 (by decide) ?_
      exact za_iret hx hb hr hlk hI h (Nat.le_of_ble_eq_true rfl) (Nat.le_of_ble_eq_true rfl) zd_Mo_ruleH_60
  have B4 : ∀ n : Nat, ∀ (H : Heap) (locs : List Loc) (ls : Array Slot) (a0 : Nat) (x1 : Int32) (x2 : Int32) (x3 : Int32) (σ : za_h), za_I D ca n0 s σ H locs → lv_has ls 5 [(0, .ref a0), (1, .int x1), (2, .int x2), (3, .int x3)] → zf_Mo_ruleH_4 n a0 x1 x2 x3 σ = some (r, σ') → W p l e ({ frames := 5, cells := 0, slots := 0, locals := 128 }) s m ([.ref ay0, .int xy1] : List Value).toArray below meth c H locs 0 0 (MQ below (za_Qi D ca n0 r σ') ([.ref ay0, .int xy1] : List Value).toArray s 0 0 (za_A n0)) (F0 m 4 ls []) := by
    intro n
    induction n with
    | zero => intro H locs ls a0 x1 x2 x3 σ hI hl h; rw [zf_Mo_ruleH_4] at h; cases h
    | succ n ih =>
      intro H locs ls a0 x1 x2 x3 σ hI hl h
      rw [zf_Mo_ruleH_4] at h
      refine lv_iload_n hx hb zd_Mo_ruleH_4 rfl (lv_at hl 3 rfl) ?_
      refine lv_bipush (v := nI 28) hx hb zd_Mo_ruleH_5 (by decide) ?_
      refine lv_icmp_ge hx hb (tgt := 67) zd_Mo_ruleH_7 (by decide) (fun c1 => ?_) (fun c1 => ?_)
      · replace h := zb_t c1 h
        refine lv_iload_n hx hb zd_Mo_ruleH_67 rfl (lv_at hl 2 rfl) ?_
        exact za_iret hx hb hr hlk hI h (Nat.le_of_ble_eq_true rfl) (Nat.le_of_ble_eq_true rfl) zd_Mo_ruleH_68
      · replace h := zb_f c1 h
        refine lv_aload_n hx hb zd_Mo_ruleH_10 rfl (lv_at hl 0 rfl) ?_
        refine lv_iload_n hx hb zd_Mo_ruleH_11 rfl (lv_at hl 1 rfl) ?_
        refine lv_iconst (v := nI 2) hx hb zd_Mo_ruleH_12 (by decide) ?_
        refine lv_iload_n hx hb zd_Mo_ruleH_13 rfl (lv_at hl 3 rfl) ?_
        refine lv_iload_n hx hb zd_Mo_ruleH_14 rfl (lv_at hl 3 rfl) ?_
        obtain ⟨_, g2, h⟩ := zb_o h
        obtain ⟨⟨r3, σ4⟩, e5, h⟩ := zb_o h
        refine za_calli (za_runV hx hb hml hown hts hK hI g2 (zm_Mo_accept e5) zj_Mo_165 ⟨rfl, rfl⟩ ⟨Nat.le_of_ble_eq_true rfl, Nat.le_of_ble_eq_true rfl⟩ rfl hl.1 rfl (Nat.le_of_ble_eq_true rfl) zd_Mo_ruleH_15 ⟨Nat.le_of_ble_eq_true rfl, Nat.le_of_ble_eq_true rfl⟩) hI (fun H locs hI => ?_)
        refine lv_istore (lv' := [(4, .int r3), (0, .ref a0), (1, .int x1), (2, .int x2), (3, .int x3)]) hx hb zd_Mo_ruleH_18 hl (Nat.le_of_ble_eq_true rfl) rfl (fun ls hl => ?_)
        refine lv_iload hx hb zd_Mo_ruleH_20 (lv_at hl 0 rfl) ?_
        refine lv_if_eq hx hb (tgt := 29) zd_Mo_ruleH_22 (by decide) (fun c6 => ?_) (fun c6 => ?_)
        · replace h := zb_t c6 h
          refine lv_iload_n hx hb zd_Mo_ruleH_29 rfl (lv_at hl 3 rfl) ?_
          exact B30 _ ih _ _ ls a0 x1 x3 x2 σ4 hI (lv_sub hl [1, 2, 4] rfl) h
        · replace h := zb_f c6 h
          refine lv_iconst (v := nI 1) hx hb zd_Mo_ruleH_25 (by decide) ?_
          refine lv_goto hx hb (tgt := 30) zd_Mo_ruleH_26 (by decide) ?_
          exact B30 _ ih _ _ ls a0 x1 x3 (nI 1) σ4 hI (lv_sub hl [1, 2, 4] rfl) h
  unfold zf_Mo_ruleH at h
  refine lv_iconst (v := nI 0) hx hb zd_Mo_ruleH_0 (by decide) ?_
  refine lv_istore_n (lv' := [(2, .int (nI 0)), (0, .ref ay0), (1, .int xy1)]) hx hb zd_Mo_ruleH_1 rfl hl (Nat.le_of_ble_eq_true rfl) rfl (fun ls hl => ?_)
  refine lv_iconst (v := nI 0) hx hb zd_Mo_ruleH_2 (by decide) ?_
  refine lv_istore_n (lv' := [(3, .int (nI 0)), (2, .int (nI 0)), (0, .ref ay0), (1, .int xy1)]) hx hb zd_Mo_ruleH_3 rfl hl (Nat.le_of_ble_eq_true rfl) rfl (fun ls hl => ?_)
  exact B4 29 _ _ ls ay0 xy1 (nI 0) (nI 0) σ hI (lv_sub hl [2, 3, 1, 0] rfl) h
