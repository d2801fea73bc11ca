def zf_Trust_init (ay0 : Nat) (σ : za_h) : Option (Unit × za_h) :=
  (zp_f σ ay0 9 0 (.int (nI 4))).bind fun σ2 =>
  (zp_f σ2 ay0 9 1 (.int (nI 31))).bind fun σ4 =>
  some ((), σ4)
set_option maxRecDepth 100000 in
set_option maxHeartbeats 4000000 in
theorem zm_Trust_init {l : Launch} {D : va_G} {ca : Nat → ClassId} {n0 : Nat} {ay0 : Nat} {σ σ' : za_h} {r : Unit} (h : zf_Trust_init ay0 σ = some (r, σ')) : Met l zy_Trust_init (za_wy zy_Trust_init zc_Trust_init 1 none) { frames := 1, cells := 0, slots := 0, locals := 20 } (za_Pc D ca n0 [.ref ay0] σ) (za_Qv D ca n0 r σ') 0 0 (za_A n0) := by
  refine za_met (by decide) (Nat.le_of_ble_eq_true rfl) ?_
  intro p e s m below meth c ls hx hb hml hr hlk hts hown hnm hK hI hl
  replace hown : s.vm.findClass zR_Trust = some m.cls := hown
  replace hl : lv_has ls 1 [(0, .ref ay0)] := hl
  unfold zf_Trust_init at h
  refine lv_aload_n hx hb zd_Trust_init_0 rfl (lv_at hl 0 rfl) ?_
  refine W.objInit hx hb hown (hts _ zk_34) (hts _ zk_20) (hts _ zk_21) rfl (by rw [hml]; exact hl.1) rfl zd_Trust_init_1 (Nat.le_of_ble_eq_true rfl) (Nat.le_of_ble_eq_true rfl) ?_
  refine W.eq (g2 := F0 m 4 ls []) rfl ?_
  refine lv_aload_n hx hb zd_Trust_init_4 rfl (lv_at hl 0 rfl) ?_
  refine lv_iconst (v := nI 4) hx hb zd_Trust_init_5 (by decide) ?_
  obtain ⟨σ2, e1, h⟩ := zb_o h
  refine za_put hx hb hts hown hK hI zl_Trust_9 e1 rfl rfl zd_Trust_init_6 (fun H locs hI => ?_)
  refine lv_aload_n hx hb zd_Trust_init_9 rfl (lv_at hl 0 rfl) ?_
  refine lv_bipush (v := nI 31) hx hb zd_Trust_init_10 (by decide) ?_
  obtain ⟨σ4, e3, h⟩ := zb_o h
  refine za_put hx hb hts hown hK hI zl_Trust_15 e3 rfl rfl zd_Trust_init_12 (fun H locs hI => ?_)
  exact za_vret hx hb hr hlk hI h (Nat.le_of_ble_eq_true rfl) (Nat.le_of_ble_eq_true rfl) zd_Trust_init_15

def zf_Quorums_init_14 : Nat → Nat → Int32 → za_h → Option (Unit × za_h)
  | 0, _, _, _ => none
  | n + 1, a0, x1, σ =>
  if (nI 5) ≤ x1 then
  (some ((), σ))
  else
  ((zg_r σ a0 6 0).bind fun b3 =>
  (zf_Trust_init σ.2 (za_n σ (.inr (9, [.int 0, .int 0, .int 0, .int 0])))).bind fun (_, σ5) =>
  (za_sq σ5 b3 7 9 x1 (some σ.2)).bind fun σ7 =>
  zf_Quorums_init_14 n a0 (x1 + nI 1) σ7)

def zf_Quorums_init (ay0 : Nat) (σ : za_h) : Option (Unit × za_h) :=
  (zp_f (za_n σ (.inl (7, 5, .inr (fun _ => none)))) ay0 6 0 (.ref σ.2)).bind fun σ2 =>
  zf_Quorums_init_14 6 ay0 (nI 0) σ2
set_option maxRecDepth 100000 in
set_option maxHeartbeats 4000000 in
theorem zm_Quorums_init {l : Launch} {D : va_G} {ca : Nat → ClassId} {n0 : Nat} {ay0 : Nat} {σ σ' : za_h} {r : Unit} (h : zf_Quorums_init ay0 σ = some (r, σ')) : Met l zy_Quorums_init (za_wy zy_Quorums_init zc_Quorums_init 2 none) { frames := 2, cells := 7, slots := 29, locals := 40 } (za_Pc D ca n0 [.ref ay0] σ) (za_Qv D ca n0 r σ') 7 29 (za_A n0) := by
  refine za_met (by decide) (Nat.le_of_ble_eq_true rfl) ?_
  intro p e s m below meth c ls hx hb hml hr hlk hts hown hnm hK hI hl
  replace hown : s.vm.findClass zR_Quorums = some m.cls := hown
  replace hl : lv_has ls 2 [(0, .ref ay0)] := hl
  have B14 : ∀ n : Nat, ∀ (H : Heap) (locs : List Loc) (cells slots : Nat) (_ : cells + n * 1 ≤ 7) (_ : slots + n * 4 ≤ 29) (ls : Array Slot) (a0 : Nat) (x1 : Int32) (σ : za_h), za_I D ca n0 s σ H locs → lv_has ls 2 [(0, .ref a0), (1, .int x1)] → zf_Quorums_init_14 n a0 x1 σ = some (r, σ') → W p l e ({ frames := 2, cells := 7, slots := 29, locals := 40 }) s m ([.ref ay0] : List Value).toArray below meth c H locs cells slots (MQ below (za_Qv D ca n0 r σ') ([.ref ay0] : List Value).toArray s 7 29 (za_A n0)) (F0 m 14 ls []) := by
    intro n
    induction n with
    | zero => intro H locs cells slots hcl hsl ls a0 x1 σ hI hl h; rw [zf_Quorums_init_14] at h; cases h
    | succ n ih =>
      intro H locs cells slots hcl hsl ls a0 x1 σ hI hl h
      rw [zf_Quorums_init_14] at h
      refine lv_iload_n hx hb zd_Quorums_init_14 rfl (lv_at hl 1 rfl) ?_
      refine lv_iconst (v := nI 5) hx hb zd_Quorums_init_15 (by decide) ?_
      refine lv_icmp_ge hx hb (tgt := 38) zd_Quorums_init_16 (by decide) (fun c1 => ?_) (fun c1 => ?_)
      · replace h := zb_t c1 h
        exact za_vret hx hb hr hlk hI h (by omega) (by omega) zd_Quorums_init_38
      · replace h := zb_f c1 h
        refine lv_aload_n hx hb zd_Quorums_init_19 rfl (lv_at hl 0 rfl) ?_
        obtain ⟨b3, e2, h⟩ := zb_o h
        refine za_getr hx hb hts hown hK hI zl_Quorums_11 e2 zd_Quorums_init_20 ?_
        refine lv_iload_n hx hb zd_Quorums_init_23 rfl (lv_at hl 1 rfl) ?_
        refine za_new hx hb hts hown hK hI zw_Quorums_9 (by show _ + _ ≤ 7; omega) (by show _ + _ ≤ 29; omega) zd_Quorums_init_24 (fun H hI => ?_)
        refine lv_dup hx hb zd_Quorums_init_27 rfl ?_
        obtain ⟨⟨r4, σ5⟩, e6, h⟩ := zb_o h
        refine za_callv (za_runI hx hb hml hown hts hK hI (zm_Trust_init e6) zj_Quorums_17 ⟨rfl, rfl⟩ ⟨Nat.le_of_ble_eq_true rfl, Nat.le_of_ble_eq_true rfl⟩ rfl hl.1 rfl (Nat.le_of_ble_eq_true rfl) zd_Quorums_init_28 ⟨by show _ + _ ≤ 7; omega, by show _ + _ ≤ 29; omega⟩) hI (fun H locs hI => ?_)
        obtain ⟨σ7, e8, h⟩ := zb_o h
        refine za_aast (o := (some σ.2)) hx hb hK hI (t := 7) (ci := 9) rfl ⟨_, _, rfl⟩ e8 zd_Quorums_init_31 (fun H locs hI => ?_)
        refine lv_iinc (k := 1) (v := (x1 + nI 1)) (lv' := [(1, .int (x1 + nI 1)), (0, .ref a0)]) hx hb zd_Quorums_init_32 hl rfl rfl (Nat.le_of_ble_eq_true rfl) rfl (fun ls hl => ?_)
        refine lv_goto hx hb (tgt := 14) zd_Quorums_init_35 (by decide) ?_
        exact ih _ _ _ _ (by omega) (by omega) ls a0 (x1 + nI 1) σ7 hI (lv_sub hl [1, 0] rfl) h
  unfold zf_Quorums_init at h
  refine lv_aload_n hx hb zd_Quorums_init_0 rfl (lv_at hl 0 rfl) ?_
  refine W.objInit hx hb hown (hts _ zk_27) (hts _ zk_20) (hts _ zk_21) rfl (by rw [hml]; exact hl.1) rfl zd_Quorums_init_1 (Nat.le_of_ble_eq_true rfl) (Nat.le_of_ble_eq_true rfl) ?_
  refine W.eq (g2 := F0 m 4 ls []) rfl ?_
  refine lv_aload_n hx hb zd_Quorums_init_4 rfl (lv_at hl 0 rfl) ?_
  refine lv_iconst (v := nI 5) hx hb zd_Quorums_init_5 (by decide) ?_
  refine za_newq hx hb hts hown hK hI 7 rfl zk_28 (by decide) (N := 5) (by decide) (by decide) (Nat.le_of_ble_eq_true rfl) (Nat.le_of_ble_eq_true rfl) zd_Quorums_init_6 (fun H hI => ?_)
  obtain ⟨σ2, e1, h⟩ := zb_o h
  refine za_putF hx hb hts hown hnm hK hI zq_Quorums_11 e1 rfl rfl zd_Quorums_init_9 (fun H locs hI => ?_)
  refine lv_iconst (v := nI 0) hx hb zd_Quorums_init_12 (by decide) ?_
  refine lv_istore_n (lv' := [(1, .int (nI 0)), (0, .ref ay0)]) hx hb zd_Quorums_init_13 rfl hl (Nat.le_of_ble_eq_true rfl) rfl (fun ls hl => ?_)
  exact B14 6 _ _ _ _ (by omega) (by omega) ls ay0 (nI 0) σ2 hI (lv_sub hl [1, 0] rfl) h

def zf_Statements_init (ay0 : Nat) (xy1 : Int32) (ay2 : Nat) (σ : za_h) : Option (Unit × za_h) :=
  (zp_f σ ay0 7 0 (.int xy1)).bind fun σ2 =>
  (zp_f σ2 ay0 7 1 (.ref ay2)).bind fun σ4 =>
  (zp_f (za_n σ4 (.inl (0, 5, .inl (fun _ => 0)))) ay0 7 4 (.ref σ4.2)).bind fun σ6 =>
  (zp_f (za_n σ6 (.inl (0, 5, .inl (fun _ => 0)))) ay0 7 5 (.ref σ6.2)).bind fun σ8 =>
  some ((), σ8)
set_option maxRecDepth 100000 in
set_option maxHeartbeats 4000000 in
theorem zm_Statements_init {l : Launch} {D : va_G} {ca : Nat → ClassId} {n0 : Nat} {ay0 : Nat} {xy1 : Int32} {ay2 : Nat} {σ σ' : za_h} {r : Unit} (h : zf_Statements_init ay0 xy1 ay2 σ = some (r, σ')) : Met l zy_Statements_init (za_wy zy_Statements_init zc_Statements_init 3 none) { frames := 1, cells := 2, slots := 10, locals := 20 } (za_Pc D ca n0 [.ref ay0, .int xy1, .ref ay2] σ) (za_Qv D ca n0 r σ') 2 10 (za_A n0) := by
  refine za_met (by decide) (Nat.le_of_ble_eq_true rfl) ?_
  intro p e s m below meth c ls hx hb hml hr hlk hts hown hnm hK hI hl
  replace hown : s.vm.findClass zR_Statements = some m.cls := hown
  replace hl : lv_has ls 3 [(0, .ref ay0), (1, .int xy1), (2, .ref ay2)] := hl
  unfold zf_Statements_init at h
  refine lv_aload_n hx hb zd_Statements_init_0 rfl (lv_at hl 0 rfl) ?_
  refine W.objInit hx hb hown (hts _ zk_74) (hts _ zk_20) (hts _ zk_21) rfl (by rw [hml]; exact hl.1) rfl zd_Statements_init_1 (Nat.le_of_ble_eq_true rfl) (Nat.le_of_ble_eq_true rfl) ?_
  refine W.eq (g2 := F0 m 4 ls []) rfl ?_
  refine lv_aload_n hx hb zd_Statements_init_4 rfl (lv_at hl 0 rfl) ?_
  refine lv_iload_n hx hb zd_Statements_init_5 rfl (lv_at hl 1 rfl) ?_
  obtain ⟨σ2, e1, h⟩ := zb_o h
  refine za_putF hx hb hts hown hnm hK hI zq_Statements_9 e1 rfl rfl zd_Statements_init_6 (fun H locs hI => ?_)
  refine lv_aload_n hx hb zd_Statements_init_9 rfl (lv_at hl 0 rfl) ?_
  refine lv_aload_n hx hb zd_Statements_init_10 rfl (lv_at hl 2 rfl) ?_
  obtain ⟨σ4, e3, h⟩ := zb_o h
  refine za_putF hx hb hts hown hnm hK hI zq_Statements_15 e3 rfl rfl zd_Statements_init_11 (fun H locs hI => ?_)
  refine lv_aload_n hx hb zd_Statements_init_14 rfl (lv_at hl 0 rfl) ?_
  refine lv_iconst (v := nI 5) hx hb zd_Statements_init_15 (by decide) ?_
  refine za_newa (atype := .int) (ty := .int) hx hb hts hK hI 0 rfl rfl (Or.inl rfl) zk_101 (by decide) (N := 5) (by decide) (by decide) (Nat.le_of_ble_eq_true rfl) (Nat.le_of_ble_eq_true rfl) zd_Statements_init_16 (fun H hI => ?_)
  obtain ⟨σ6, e5, h⟩ := zb_o h
  refine za_putF hx hb hts hown hnm hK hI zq_Statements_19 e5 rfl rfl zd_Statements_init_18 (fun H locs hI => ?_)
  refine lv_aload_n hx hb zd_Statements_init_21 rfl (lv_at hl 0 rfl) ?_
  refine lv_iconst (v := nI 5) hx hb zd_Statements_init_22 (by decide) ?_
  refine za_newa (atype := .int) (ty := .int) hx hb hts hK hI 0 rfl rfl (Or.inl rfl) zk_101 (by decide) (N := 5) (by decide) (by decide) (Nat.le_of_ble_eq_true rfl) (Nat.le_of_ble_eq_true rfl) zd_Statements_init_23 (fun H hI => ?_)
  obtain ⟨σ8, e7, h⟩ := zb_o h
  refine za_putF hx hb hts hown hnm hK hI zq_Statements_23 e7 rfl rfl zd_Statements_init_25 (fun H locs hI => ?_)
  exact za_vret hx hb hr hlk hI h (Nat.le_of_ble_eq_true rfl) (Nat.le_of_ble_eq_true rfl) zd_Statements_init_28

def zf_TL_isWithin_15 (xs0 : Int32) (σ : za_h) : Option (Int32 × za_h) :=
  if xs0 = 0 ∨ xs0 = 1 then some (xs0, σ) else none

def zf_TL_isWithin_14  (σ : za_h) : Option (Int32 × za_h) :=
  zf_TL_isWithin_15 (nI 0) σ

def zf_TL_isWithin (xy0 : Int32) (xy1 : Int32) (xy2 : Int32) (σ : za_h) : Option (Int32 × za_h) :=
  if xy0 < xy1 then
  (zf_TL_isWithin_14 σ)
  else
  (if xy2 < xy0 then
  (zf_TL_isWithin_14 σ)
  else
  (zf_TL_isWithin_15 (nI 1) σ))
set_option maxRecDepth 100000 in
set_option maxHeartbeats 4000000 in
theorem zm_TL_isWithin {l : Launch} {D : va_G} {ca : Nat → ClassId} {n0 : Nat} {xy0 : Int32} {xy1 : Int32} {xy2 : Int32} {σ σ' : za_h} {r : Int32} (h : zf_TL_isWithin xy0 xy1 xy2 σ = some (r, σ')) : Met l zy_TL_isWithin (za_wy zy_TL_isWithin zc_TL_isWithin 3 (some .boolean)) { frames := 0, cells := 0, slots := 0, locals := 0 } (za_Pc D ca n0 [.int xy0, .int xy1, .int xy2] σ) (za_Qi D ca n0 r σ') 0 0 (za_A n0) := by
  refine za_met (by decide) (Nat.le_of_ble_eq_true rfl) ?_
  intro p e s m below meth c ls hx hb hml hr hlk hts hown hnm hK hI hl
  replace hown : s.vm.findClass zR_TL = some m.cls := hown
  replace hl : lv_has ls 3 [(0, .int xy0), (1, .int xy1), (2, .int xy2)] := hl
  have B15 : ∀ (H : Heap) (locs : List Loc) (ls : Array Slot) (xs0 : Int32) (σ : za_h), za_I D ca n0 s σ H locs → lv_has ls 3 [] → zf_TL_isWithin_15 xs0 σ = some (r, σ') → W p l e ({ frames := 0, cells := 0, slots := 0, locals := 0 }) s m ([.int xy0, .int xy1, .int xy2] : List Value).toArray below meth c H locs 0 0 (MQ below (za_Qi D ca n0 r σ') ([.int xy0, .int xy1, .int xy2] : List Value).toArray s 0 0 (za_A n0)) (F0 m 15 ls [.int xs0]) := by
    intro H locs ls xs0 σ hI hl h
    unfold zf_TL_isWithin_15 at h
    obtain ⟨g1, h⟩ := zb_g h
    exact za_zret hx hb hr hlk hI g1 h (Nat.le_of_ble_eq_true rfl) (Nat.le_of_ble_eq_true rfl) zd_TL_isWithin_15
  have B14 : ∀ (H : Heap) (locs : List Loc) (ls : Array Slot) (σ : za_h), za_I D ca n0 s σ H locs → lv_has ls 3 [] → zf_TL_isWithin_14 σ = some (r, σ') → W p l e ({ frames := 0, cells := 0, slots := 0, locals := 0 }) s m ([.int xy0, .int xy1, .int xy2] : List Value).toArray below meth c H locs 0 0 (MQ below (za_Qi D ca n0 r σ') ([.int xy0, .int xy1, .int xy2] : List Value).toArray s 0 0 (za_A n0)) (F0 m 14 ls []) := by
    intro H locs ls σ hI hl h
    unfold zf_TL_isWithin_14 at h
    refine lv_iconst (v := nI 0) hx hb zd_TL_isWithin_14 (by decide) ?_
    exact B15 _ _ ls (nI 0) σ hI (lv_sub hl [] rfl) h
  unfold zf_TL_isWithin at h
  refine lv_iload_n hx hb zd_TL_isWithin_0 rfl (lv_at hl 0 rfl) ?_
  refine lv_iload_n hx hb zd_TL_isWithin_1 rfl (lv_at hl 1 rfl) ?_
  refine lv_icmp_lt hx hb (tgt := 14) zd_TL_isWithin_2 (by decide) (fun c1 => ?_) (fun c1 => ?_)
  · replace h := zb_t c1 h
    exact B14 _ _ ls σ hI (lv_sub hl [] rfl) h
  · replace h := zb_f c1 h
    refine lv_iload_n hx hb zd_TL_isWithin_5 rfl (lv_at hl 0 rfl) ?_
    refine lv_iload_n hx hb zd_TL_isWithin_6 rfl (lv_at hl 2 rfl) ?_
    refine lv_icmp_gt hx hb (tgt := 14) zd_TL_isWithin_7 (by decide) (fun c2 => ?_) (fun c2 => ?_)
    · replace h := zb_t c2 h
      exact B14 _ _ ls σ hI (lv_sub hl [] rfl) h
    · replace h := zb_f c2 h
      refine lv_iconst (v := nI 1) hx hb zd_TL_isWithin_10 (by decide) ?_
      refine lv_goto hx hb (tgt := 15) zd_TL_isWithin_11 (by decide) ?_
      exact B15 _ _ ls (nI 1) σ hI (lv_sub hl [] rfl) h

def zf_Trust_become_26 (as0 : Nat) (xs1 : Int32) (σ : za_h) : Option (Unit × za_h) :=
  (zp_f σ as0 9 3 (.int xs1)).bind fun σ2 =>
  some ((), σ2)

def zf_Trust_become (ay0 : Nat) (xy1 : Int32) (xy2 : Int32) (xy3 : Int32) (xy4 : Int32) (σ : za_h) : Option (Unit × za_h) :=
  (zp_f σ ay0 9 0 (.int xy1)).bind fun σ2 =>
  (zp_f σ2 ay0 9 1 (.int xy2)).bind fun σ4 =>
  (zp_f σ4 ay0 9 2 (.int xy3)).bind fun σ6 =>
  if xy3 ≤ 0 then
  (zf_Trust_become_26 ay0 (nI 0) σ6)
  else
  (zf_Trust_become_26 ay0 xy4 σ6)
set_option maxRecDepth 100000 in
set_option maxHeartbeats 4000000 in
theorem zm_Trust_become {l : Launch} {D : va_G} {ca : Nat → ClassId} {n0 : Nat} {ay0 : Nat} {xy1 : Int32} {xy2 : Int32} {xy3 : Int32} {xy4 : Int32} {σ σ' : za_h} {r : Unit} (h : zf_Trust_become ay0 xy1 xy2 xy3 xy4 σ = some (r, σ')) : Met l zy_Trust_become (za_wy zy_Trust_become zc_Trust_become 5 none) { frames := 0, cells := 0, slots := 0, locals := 0 } (za_Pc D ca n0 [.ref ay0, .int xy1, .int xy2, .int xy3, .int xy4] σ) (za_Qv D ca n0 r σ') 0 0 (za_A n0) := by
  refine za_met (by decide) (Nat.le_of_ble_eq_true rfl) ?_
  intro p e s m below meth c ls hx hb hml hr hlk hts hown hnm hK hI hl
  replace hown : s.vm.findClass zR_Trust = some m.cls := hown
  replace hl : lv_has ls 5 [(0, .ref ay0), (1, .int xy1), (2, .int xy2), (3, .int xy3), (4, .int xy4)] := hl
  have B26 : ∀ (H : Heap) (locs : List Loc) (ls : Array Slot) (as0 : Nat) (xs1 : Int32) (σ : za_h), za_I D ca n0 s σ H locs → lv_has ls 5 [] → zf_Trust_become_26 as0 xs1 σ = some (r, σ') → W p l e ({ frames := 0, cells := 0, slots := 0, locals := 0 }) s m ([.ref ay0, .int xy1, .int xy2, .int xy3, .int xy4] : List Value).toArray below meth c H locs 0 0 (MQ below (za_Qv D ca n0 r σ') ([.ref ay0, .int xy1, .int xy2, .int xy3, .int xy4] : List Value).toArray s 0 0 (za_A n0)) (F0 m 26 ls [.int xs1, .ref as0]) := by
    intro H locs ls as0 xs1 σ hI hl h
    unfold zf_Trust_become_26 at h
    obtain ⟨σ2, e1, h⟩ := zb_o h
    refine za_put hx hb hts hown hK hI zl_Trust_21 e1 rfl rfl zd_Trust_become_26 (fun H locs hI => ?_)
    exact za_vret hx hb hr hlk hI h (Nat.le_of_ble_eq_true rfl) (Nat.le_of_ble_eq_true rfl) zd_Trust_become_29
  unfold zf_Trust_become at h
  refine lv_aload_n hx hb zd_Trust_become_0 rfl (lv_at hl 0 rfl) ?_
  refine lv_iload_n hx hb zd_Trust_become_1 rfl (lv_at hl 1 rfl) ?_
  obtain ⟨σ2, e1, h⟩ := zb_o h
  refine za_put hx hb hts hown hK hI zl_Trust_9 e1 rfl rfl zd_Trust_become_2 (fun H locs hI => ?_)
  refine lv_aload_n hx hb zd_Trust_become_5 rfl (lv_at hl 0 rfl) ?_
  refine lv_iload_n hx hb zd_Trust_become_6 rfl (lv_at hl 2 rfl) ?_
  obtain ⟨σ4, e3, h⟩ := zb_o h
  refine za_put hx hb hts hown hK hI zl_Trust_15 e3 rfl rfl zd_Trust_become_7 (fun H locs hI => ?_)
  refine lv_aload_n hx hb zd_Trust_become_10 rfl (lv_at hl 0 rfl) ?_
  refine lv_iload_n hx hb zd_Trust_become_11 rfl (lv_at hl 3 rfl) ?_
  obtain ⟨σ6, e5, h⟩ := zb_o h
  refine za_put hx hb hts hown hK hI zl_Trust_18 e5 rfl rfl zd_Trust_become_12 (fun H locs hI => ?_)
  refine lv_aload_n hx hb zd_Trust_become_15 rfl (lv_at hl 0 rfl) ?_
  refine lv_iload_n hx hb zd_Trust_become_16 rfl (lv_at hl 3 rfl) ?_
  refine lv_if_le hx hb (tgt := 25) zd_Trust_become_17 (by decide) (fun c7 => ?_) (fun c7 => ?_)
  · replace h := zb_t c7 h
    refine lv_iconst (v := nI 0) hx hb zd_Trust_become_25 (by decide) ?_
    exact B26 _ _ ls ay0 (nI 0) σ6 hI (lv_sub hl [] rfl) h
  · replace h := zb_f c7 h
    refine lv_iload hx hb zd_Trust_become_20 (lv_at hl 4 rfl) ?_
    refine lv_goto hx hb (tgt := 26) zd_Trust_become_22 (by decide) ?_
    exact B26 _ _ ls ay0 xy4 σ6 hI (lv_sub hl [] rfl) h

def zf_TL_isSlot (xy0 : Int32) (σ : za_h) : Option (Int32 × za_h) :=
  (zf_TL_isWithin xy0 (nI 0) (nI 2) σ).bind fun (r1, σ2) =>
  if r1 = 0 ∨ r1 = 1 then some (r1, σ2) else none
set_option maxRecDepth 100000 in
set_option maxHeartbeats 4000000 in
theorem zm_TL_isSlot {l : Launch} {D : va_G} {ca : Nat → ClassId} {n0 : Nat} {xy0 : Int32} {σ σ' : za_h} {r : Int32} (h : zf_TL_isSlot xy0 σ = some (r, σ')) : Met l zy_TL_isSlot (za_wy zy_TL_isSlot zc_TL_isSlot 1 (some .boolean)) { frames := 1, cells := 0, slots := 0, locals := 22 } (za_Pc D ca n0 [.int xy0] σ) (za_Qi D ca n0 r σ') 0 0 (za_A n0) := by
  refine za_met (by decide) (Nat.le_of_ble_eq_true rfl) ?_
  intro p e s m below meth c ls hx hb hml hr hlk hts hown hnm hK hI hl
  replace hown : s.vm.findClass zR_TL = some m.cls := hown
  replace hl : lv_has ls 1 [(0, .int xy0)] := hl
  unfold zf_TL_isSlot at h
  refine lv_iload_n hx hb zd_TL_isSlot_0 rfl (lv_at hl 0 rfl) ?_
  refine lv_iconst (v := nI 0) hx hb zd_TL_isSlot_1 (by decide) ?_
  refine lv_iconst (v := nI 2) hx hb zd_TL_isSlot_2 (by decide) ?_
  obtain ⟨⟨r1, σ2⟩, e3, h⟩ := zb_o h
  refine za_calli (za_runS hx hb hml hown hts hK hI (zm_TL_isWithin e3) zj_TL_41 ⟨rfl, rfl⟩ ⟨Nat.le_of_ble_eq_true rfl, Nat.le_of_ble_eq_true rfl⟩ rfl hl.1 rfl (Nat.le_of_ble_eq_true rfl) zd_TL_isSlot_3 ⟨Nat.le_of_ble_eq_true rfl, Nat.le_of_ble_eq_true rfl⟩) hI (fun H locs hI => ?_)
  obtain ⟨g4, h⟩ := zb_g h
  exact za_zret hx hb hr hlk hI g4 h (Nat.le_of_ble_eq_true rfl) (Nat.le_of_ble_eq_true rfl) zd_TL_isSlot_6

def zf_TL_isAccount (xy0 : Int32) (σ : za_h) : Option (Int32 × za_h) :=
  (zf_TL_isWithin xy0 (nI 0) (nI 3) σ).bind fun (r1, σ2) =>
  if r1 = 0 ∨ r1 = 1 then some (r1, σ2) else none
set_option maxRecDepth 100000 in
set_option maxHeartbeats 4000000 in
theorem zm_TL_isAccount {l : Launch} {D : va_G} {ca : Nat → ClassId} {n0 : Nat} {xy0 : Int32} {σ σ' : za_h} {r : Int32} (h : zf_TL_isAccount xy0 σ = some (r, σ')) : Met l zy_TL_isAccount (za_wy zy_TL_isAccount zc_TL_isAccount 1 (some .boolean)) { frames := 1, cells := 0, slots := 0, locals := 22 } (za_Pc D ca n0 [.int xy0] σ) (za_Qi D ca n0 r σ') 0 0 (za_A n0) := by
  refine za_met (by decide) (Nat.le_of_ble_eq_true rfl) ?_
  intro p e s m below meth c ls hx hb hml hr hlk hts hown hnm hK hI hl
  replace hown : s.vm.findClass zR_TL = some m.cls := hown
  replace hl : lv_has ls 1 [(0, .int xy0)] := hl
  unfold zf_TL_isAccount at h
  refine lv_iload_n hx hb zd_TL_isAccount_0 rfl (lv_at hl 0 rfl) ?_
  refine lv_iconst (v := nI 0) hx hb zd_TL_isAccount_1 (by decide) ?_
  refine lv_iconst (v := nI 3) hx hb zd_TL_isAccount_2 (by decide) ?_
  obtain ⟨⟨r1, σ2⟩, e3, h⟩ := zb_o h
  refine za_calli (za_runS hx hb hml hown hts hK hI (zm_TL_isWithin e3) zj_TL_41 ⟨rfl, rfl⟩ ⟨Nat.le_of_ble_eq_true rfl, Nat.le_of_ble_eq_true rfl⟩ rfl hl.1 rfl (Nat.le_of_ble_eq_true rfl) zd_TL_isAccount_3 ⟨Nat.le_of_ble_eq_true rfl, Nat.le_of_ble_eq_true rfl⟩) hI (fun H locs hI => ?_)
  obtain ⟨g4, h⟩ := zb_g h
  exact za_zret hx hb hr hlk hI g4 h (Nat.le_of_ble_eq_true rfl) (Nat.le_of_ble_eq_true rfl) zd_TL_isAccount_6

def zf_Transaction_init (ay0 : Nat) (xy1 : Int32) (xy2 : Int32) (xy3 : Int32) (xy4 : Int32) (xy5 : Int32) (σ : za_h) : Option (Unit × za_h) :=
  (zp_f σ ay0 8 0 (.int xy1)).bind fun σ2 =>
  (zp_f σ2 ay0 8 1 (.int xy2)).bind fun σ4 =>
  (zp_f σ4 ay0 8 2 (.int xy3)).bind fun σ6 =>
  (zp_f σ6 ay0 8 3 (.int xy4)).bind fun σ8 =>
  (zp_f σ8 ay0 8 4 (.int xy5)).bind fun σ10 =>
  some ((), σ10)
set_option maxRecDepth 100000 in
set_option maxHeartbeats 4000000 in
theorem zm_Transaction_init {l : Launch} {D : va_G} {ca : Nat → ClassId} {n0 : Nat} {ay0 : Nat} {xy1 : Int32} {xy2 : Int32} {xy3 : Int32} {xy4 : Int32} {xy5 : Int32} {σ σ' : za_h} {r : Unit} (h : zf_Transaction_init ay0 xy1 xy2 xy3 xy4 xy5 σ = some (r, σ')) : Met l zy_Transaction_init (za_wy zy_Transaction_init zc_Transaction_init 6 none) { frames := 1, cells := 0, slots := 0, locals := 20 } (za_Pc D ca n0 [.ref ay0, .int xy1, .int xy2, .int xy3, .int xy4, .int xy5] σ) (za_Qv D ca n0 r σ') 0 0 (za_A n0) := by
  refine za_met (by decide) (Nat.le_of_ble_eq_true rfl) ?_
  intro p e s m below meth c ls hx hb hml hr hlk hts hown hnm hK hI hl
  replace hown : s.vm.findClass zR_Transaction = some m.cls := hown
  replace hl : lv_has ls 6 [(0, .ref ay0), (1, .int xy1), (2, .int xy2), (3, .int xy3), (4, .int xy4), (5, .int xy5)] := hl
  unfold zf_Transaction_init at h
  refine lv_aload_n hx hb zd_Transaction_init_0 rfl (lv_at hl 0 rfl) ?_
  refine W.objInit hx hb hown (hts _ zk_231) (hts _ zk_20) (hts _ zk_21) rfl (by rw [hml]; exact hl.1) rfl zd_Transaction_init_1 (Nat.le_of_ble_eq_true rfl) (Nat.le_of_ble_eq_true rfl) ?_
  refine W.eq (g2 := F0 m 4 ls []) rfl ?_
  refine lv_aload_n hx hb zd_Transaction_init_4 rfl (lv_at hl 0 rfl) ?_
  refine lv_iload_n hx hb zd_Transaction_init_5 rfl (lv_at hl 1 rfl) ?_
  obtain ⟨σ2, e1, h⟩ := zb_o h
  refine za_putF hx hb hts hown hnm hK hI zq_Transaction_7 e1 rfl rfl zd_Transaction_init_6 (fun H locs hI => ?_)
  refine lv_aload_n hx hb zd_Transaction_init_9 rfl (lv_at hl 0 rfl) ?_
  refine lv_iload_n hx hb zd_Transaction_init_10 rfl (lv_at hl 2 rfl) ?_
  obtain ⟨σ4, e3, h⟩ := zb_o h
  refine za_putF hx hb hts hown hnm hK hI zq_Transaction_13 e3 rfl rfl zd_Transaction_init_11 (fun H locs hI => ?_)
  refine lv_aload_n hx hb zd_Transaction_init_14 rfl (lv_at hl 0 rfl) ?_
  refine lv_iload_n hx hb zd_Transaction_init_15 rfl (lv_at hl 3 rfl) ?_
  obtain ⟨σ6, e5, h⟩ := zb_o h
  refine za_putF hx hb hts hown hnm hK hI zq_Transaction_16 e5 rfl rfl zd_Transaction_init_16 (fun H locs hI => ?_)
  refine lv_aload_n hx hb zd_Transaction_init_19 rfl (lv_at hl 0 rfl) ?_
  refine lv_iload hx hb zd_Transaction_init_20 (lv_at hl 4 rfl) ?_
  obtain ⟨σ8, e7, h⟩ := zb_o h
  refine za_putF hx hb hts hown hnm hK hI zq_Transaction_19 e7 rfl rfl zd_Transaction_init_22 (fun H locs hI => ?_)
  refine lv_aload_n hx hb zd_Transaction_init_25 rfl (lv_at hl 0 rfl) ?_
  refine lv_iload hx hb zd_Transaction_init_26 (lv_at hl 5 rfl) ?_
  obtain ⟨σ10, e9, h⟩ := zb_o h
  refine za_putF hx hb hts hown hnm hK hI zq_Transaction_22 e9 rfl rfl zd_Transaction_init_28 (fun H locs hI => ?_)
  exact za_vret hx hb hr hlk hI h (Nat.le_of_ble_eq_true rfl) (Nat.le_of_ble_eq_true rfl) zd_Transaction_init_31

def zf_TL_has_13 (xs0 : Int32) (σ : za_h) : Option (Int32 × za_h) :=
  if xs0 = 0 ∨ xs0 = 1 then some (xs0, σ) else none

def zf_TL_has (xy0 : Int32) (xy1 : Int32) (σ : za_h) : Option (Int32 × za_h) :=
  if ((za_ushr xy0 xy1) &&& (nI 1)) = 0 then
  (zf_TL_has_13 (nI 0) σ)
  else
  (zf_TL_has_13 (nI 1) σ)
set_option maxRecDepth 100000 in
set_option maxHeartbeats 4000000 in
theorem zm_TL_has {l : Launch} {D : va_G} {ca : Nat → ClassId} {n0 : Nat} {xy0 : Int32} {xy1 : Int32} {σ σ' : za_h} {r : Int32} (h : zf_TL_has xy0 xy1 σ = some (r, σ')) : Met l zy_TL_has (za_wy zy_TL_has zc_TL_has 2 (some .boolean)) { frames := 0, cells := 0, slots := 0, locals := 0 } (za_Pc D ca n0 [.int xy0, .int xy1] σ) (za_Qi D ca n0 r σ') 0 0 (za_A n0) := by
  refine za_met (by decide) (Nat.le_of_ble_eq_true rfl) ?_
  intro p e s m below meth c ls hx hb hml hr hlk hts hown hnm hK hI hl
  replace hown : s.vm.findClass zR_TL = some m.cls := hown
  replace hl : lv_has ls 2 [(0, .int xy0), (1, .int xy1)] := hl
  have B13 : ∀ (H : Heap) (locs : List Loc) (ls : Array Slot) (xs0 : Int32) (σ : za_h), za_I D ca n0 s σ H locs → lv_has ls 2 [] → zf_TL_has_13 xs0 σ = some (r, σ') → W p l e ({ frames := 0, cells := 0, slots := 0, locals := 0 }) s m ([.int xy0, .int xy1] : List Value).toArray below meth c H locs 0 0 (MQ below (za_Qi D ca n0 r σ') ([.int xy0, .int xy1] : List Value).toArray s 0 0 (za_A n0)) (F0 m 13 ls [.int xs0]) := by
    intro H locs ls xs0 σ hI hl h
    unfold zf_TL_has_13 at h
    obtain ⟨g1, h⟩ := zb_g h
    exact za_zret hx hb hr hlk hI g1 h (Nat.le_of_ble_eq_true rfl) (Nat.le_of_ble_eq_true rfl) zd_TL_has_13
  unfold zf_TL_has at h
  refine lv_iload_n hx hb zd_TL_has_0 rfl (lv_at hl 0 rfl) ?_
  refine lv_iload_n hx hb zd_TL_has_1 rfl (lv_at hl 1 rfl) ?_
  refine lv_iushr (v := (za_ushr xy0 xy1)) hx hb zd_TL_has_2 rfl ?_
  refine lv_iconst (v := nI 1) hx hb zd_TL_has_3 (by decide) ?_
  refine lv_iand hx hb zd_TL_has_4 ?_
  refine lv_if_eq hx hb (tgt := 12) zd_TL_has_5 (by decide) (fun c1 => ?_) (fun c1 => ?_)
  · replace h := zb_t c1 h
    refine lv_iconst (v := nI 0) hx hb zd_TL_has_12 (by decide) ?_
    exact B13 _ _ ls (nI 0) σ hI (lv_sub hl [] rfl) h
  · replace h := zb_f c1 h
    refine lv_iconst (v := nI 1) hx hb zd_TL_has_8 (by decide) ?_
    refine lv_goto hx hb (tgt := 13) zd_TL_has_9 (by decide) ?_
    exact B13 _ _ ls (nI 1) σ hI (lv_sub hl [] rfl) h

def zf_Trust_everyone (ay0 : Nat) (σ : za_h) : Option (Int32 × za_h) :=
  (zg_i σ ay0 9 1).bind fun v2 =>
  (zg_i σ ay0 9 3).bind fun v4 =>
  some ((v2 ||| v4), σ)
set_option maxRecDepth 100000 in
set_option maxHeartbeats 4000000 in
theorem zm_Trust_everyone {l : Launch} {D : va_G} {ca : Nat → ClassId} {n0 : Nat} {ay0 : Nat} {σ σ' : za_h} {r : Int32} (h : zf_Trust_everyone ay0 σ = some (r, σ')) : Met l zy_Trust_everyone (za_wy zy_Trust_everyone zc_Trust_everyone 1 (some .int)) { frames := 0, cells := 0, slots := 0, locals := 0 } (za_Pc D ca n0 [.ref ay0] σ) (za_Qi D ca n0 r σ') 0 0 (za_A n0) := by
  refine za_met (by decide) (Nat.le_of_ble_eq_true rfl) ?_
  intro p e s m below meth c ls hx hb hml hr hlk hts hown hnm hK hI hl
  replace hown : s.vm.findClass zR_Trust = some m.cls := hown
  replace hl : lv_has ls 1 [(0, .ref ay0)] := hl
  unfold zf_Trust_everyone at h
  refine lv_aload_n hx hb zd_Trust_everyone_0 rfl (lv_at hl 0 rfl) ?_
  obtain ⟨v2, e1, h⟩ := zb_o h
  refine za_geti hx hb hts hown hK hI zl_Trust_15 e1 zd_Trust_everyone_1 ?_
  refine lv_aload_n hx hb zd_Trust_everyone_4 rfl (lv_at hl 0 rfl) ?_
  obtain ⟨v4, e3, h⟩ := zb_o h
  refine za_geti hx hb hts hown hK hI zl_Trust_21 e3 zd_Trust_everyone_5 ?_
  refine lv_ior hx hb zd_Trust_everyone_8 ?_
  exact za_iret hx hb hr hlk hI h (Nat.le_of_ble_eq_true rfl) (Nat.le_of_ble_eq_true rfl) zd_Trust_everyone_9

def zf_Statements_nodesWith_29 (k5 : Nat → Int32 → Int32 → Int32 → za_h → Option (Int32 × za_h)) (a1 : Nat) (x2 : Int32) (x3 : Int32) (x4 : Int32) (σ : za_h) : Option (Int32 × za_h) :=
  k5 a1 x2 x3 (x4 + nI 1) σ

def zf_Statements_nodesWith_5 : Nat → Nat → Int32 → Int32 → Int32 → za_h → Option (Int32 × za_h)
  | 0, _, _, _, _, _ => none
  | n + 1, a1, x2, x3, x4, σ =>
  if (nI 5) ≤ x4 then
  (some (x3, σ))
  else
  ((za_ld σ a1 0 x4).bind fun v2 =>
  (zf_TL_has v2 x2 σ).bind fun (r4, σ5) =>
  if r4 = 0 then
  (zf_Statements_nodesWith_29 (zf_Statements_nodesWith_5 n) a1 x2 x3 x4 σ5)
  else
  (zf_Statements_nodesWith_29 (zf_Statements_nodesWith_5 n) a1 x2 (x3 ||| ((nI 1) <<< (x4 &&& 31))) x4 σ5))

def zf_Statements_nodesWith (ay0 : Nat) (ay1 : Nat) (xy2 : Int32) (σ : za_h) : Option (Int32 × za_h) :=
  zf_Statements_nodesWith_5 6 ay1 xy2 (nI 0) (nI 0) σ
set_option maxRecDepth 100000 in
set_option maxHeartbeats 4000000 in
theorem zm_Statements_nodesWith {l : Launch} {D : va_G} {ca : Nat → ClassId} {n0 : Nat} {ay0 : Nat} {ay1 : Nat} {xy2 : Int32} {σ σ' : za_h} {r : Int32} (h : zf_Statements_nodesWith ay0 ay1 xy2 σ = some (r, σ')) : Met l zy_Statements_nodesWith (za_wy zy_Statements_nodesWith zc_Statements_nodesWith 5 (some .int)) { frames := 1, cells := 0, slots := 0, locals := 21 } (za_Pc D ca n0 [.ref ay0, .ref ay1, .int xy2] σ) (za_Qi D ca n0 r σ') 0 0 (za_A n0) := by
  refine za_met (by decide) (Nat.le_of_ble_eq_true rfl) ?_
  intro p e s m below meth c ls hx hb hml hr hlk hts hown hnm hK hI hl
  replace hown : s.vm.findClass zR_Statements = some m.cls := hown
  replace hl : lv_has ls 5 [(0, .ref ay0), (1, .ref ay1), (2, .int xy2)] := hl
  have B29 : ∀ (k5 : Nat → Int32 → Int32 → Int32 → za_h → Option (Int32 × za_h)), (∀ (H : Heap) (locs : List Loc) (ls : Array Slot) (a1 : Nat) (x2 : Int32) (x3 : Int32) (x4 : Int32) (σ : za_h), za_I D ca n0 s σ H locs → lv_has ls 5 [(1, .ref a1), (2, .int x2), (3, .int x3), (4, .int x4)] → k5 a1 x2 x3 x4 σ = some (r, σ') → W p l e ({ frames := 1, cells := 0, slots := 0, locals := 21 }) s m ([.ref ay0, .ref ay1, .int xy2] : List Value).toArray below meth c H locs 0 0 (MQ below (za_Qi D ca n0 r σ') ([.ref ay0, .ref ay1, .int xy2] : List Value).toArray s 0 0 (za_A n0)) (F0 m 5 ls [])) → ∀ (H : Heap) (locs : List Loc) (ls : Array Slot) (a1 : Nat) (x2 : Int32) (x3 : Int32) (x4 : Int32) (σ : za_h), za_I D ca n0 s σ H locs → lv_has ls 5 [(1, .ref a1), (2, .int x2), (3, .int x3), (4, .int x4)] → zf_Statements_nodesWith_29 k5 a1 x2 x3 x4 σ = some (r, σ') → W p l e ({ frames := 1, cells := 0, slots := 0, locals := 21 }) s m ([.ref ay0, .ref ay1, .int xy2] : List Value).toArray below meth c H locs 0 0 (MQ below (za_Qi D ca n0 r σ') ([.ref ay0, .ref ay1, .int xy2] : List Value).toArray s 0 0 (za_A n0)) (F0 m 29 ls []) := by
    intro k5 hk5 H locs ls a1 x2 x3 x4 σ hI hl h
    unfold zf_Statements_nodesWith_29 at h
    refine lv_iinc (k := 3) (v := (x4 + nI 1)) (lv' := [(4, .int (x4 + nI 1)), (1, .ref a1), (2, .int x2), (3, .int x3)]) hx hb zd_Statements_nodesWith_29 hl rfl rfl (Nat.le_of_ble_eq_true rfl) rfl (fun ls hl => ?_)
    refine lv_goto hx hb (tgt := 5) zd_Statements_nodesWith_32 (by decide) ?_
    exact hk5 _ _ ls a1 x2 x3 (x4 + nI 1) σ hI (lv_sub hl [1, 2, 3, 0] rfl) h
  have B5 : ∀ n : Nat, ∀ (H : Heap) (locs : List Loc) (ls : Array Slot) (a1 : Nat) (x2 : Int32) (x3 : Int32) (x4 : Int32) (σ : za_h), za_I D ca n0 s σ H locs → lv_has ls 5 [(1, .ref a1), (2, .int x2), (3, .int x3), (4, .int x4)] → zf_Statements_nodesWith_5 n a1 x2 x3 x4 σ = some (r, σ') → W p l e ({ frames := 1, cells := 0, slots := 0, locals := 21 }) s m ([.ref ay0, .ref ay1, .int xy2] : List Value).toArray below meth c H locs 0 0 (MQ below (za_Qi D ca n0 r σ') ([.ref ay0, .ref ay1, .int xy2] : List Value).toArray s 0 0 (za_A n0)) (F0 m 5 ls []) := by
    intro n
    induction n with
    | zero => intro H locs ls a1 x2 x3 x4 σ hI hl h; rw [zf_Statements_nodesWith_5] at h; cases h
    | succ n ih =>
      intro H locs ls a1 x2 x3 x4 σ hI hl h
      rw [zf_Statements_nodesWith_5] at h
      refine lv_iload hx hb zd_Statements_nodesWith_5 (lv_at hl 3 rfl) ?_
      refine lv_iconst (v := nI 5) hx hb zd_Statements_nodesWith_7 (by decide) ?_
      refine lv_icmp_ge hx hb (tgt := 35) zd_Statements_nodesWith_8 (by decide) (fun c1 => ?_) (fun c1 => ?_)
      · replace h := zb_t c1 h
        refine lv_iload_n hx hb zd_Statements_nodesWith_35 rfl (lv_at hl 2 rfl) ?_
        exact za_iret hx hb hr hlk hI h (Nat.le_of_ble_eq_true rfl) (Nat.le_of_ble_eq_true rfl) zd_Statements_nodesWith_36
      · replace h := zb_f c1 h
        refine lv_aload_n hx hb zd_Statements_nodesWith_11 rfl (lv_at hl 0 rfl) ?_
        refine lv_iload hx hb zd_Statements_nodesWith_12 (lv_at hl 3 rfl) ?_
        obtain ⟨v2, e3, h⟩ := zb_o h
        refine za_iald hx hb hK hI e3 zd_Statements_nodesWith_14 ?_
        refine lv_iload_n hx hb zd_Statements_nodesWith_15 rfl (lv_at hl 1 rfl) ?_
        obtain ⟨⟨r4, σ5⟩, e6, h⟩ := zb_o h
        refine za_calli (za_runS hx hb hml hown hts hK hI (zm_TL_has e6) zj_Statements_29 ⟨rfl, rfl⟩ ⟨Nat.le_of_ble_eq_true rfl, Nat.le_of_ble_eq_true rfl⟩ rfl hl.1 rfl (Nat.le_of_ble_eq_true rfl) zd_Statements_nodesWith_16 ⟨Nat.le_of_ble_eq_true rfl, Nat.le_of_ble_eq_true rfl⟩) hI (fun H locs hI => ?_)
        refine lv_if_eq hx hb (tgt := 29) zd_Statements_nodesWith_19 (by decide) (fun c7 => ?_) (fun c7 => ?_)
        · replace h := zb_t c7 h
          exact B29 _ ih _ _ ls a1 x2 x3 x4 σ5 hI (lv_sub hl [0, 1, 2, 3] rfl) h
        · replace h := zb_f c7 h
          refine lv_iload_n hx hb zd_Statements_nodesWith_22 rfl (lv_at hl 2 rfl) ?_
          refine lv_iconst (v := nI 1) hx hb zd_Statements_nodesWith_23 (by decide) ?_
          refine lv_iload hx hb zd_Statements_nodesWith_24 (lv_at hl 3 rfl) ?_
          refine lv_ishl hx hb zd_Statements_nodesWith_26 ?_
          refine lv_ior hx hb zd_Statements_nodesWith_27 ?_
          refine lv_istore_n (lv' := [(3, .int (x3 ||| ((nI 1) <<< (x4 &&& 31)))), (1, .ref a1), (2, .int x2), (4, .int x4)]) hx hb zd_Statements_nodesWith_28 rfl hl (Nat.le_of_ble_eq_true rfl) rfl (fun ls hl => ?_)
          exact B29 _ ih _ _ ls a1 x2 (x3 ||| ((nI 1) <<< (x4 &&& 31))) x4 σ5 hI (lv_sub hl [1, 2, 0, 3] rfl) h
  unfold zf_Statements_nodesWith at h
  refine lv_iconst (v := nI 0) hx hb zd_Statements_nodesWith_0 (by decide) ?_
  refine lv_istore_n (lv' := [(3, .int (nI 0)), (0, .ref ay0), (1, .ref ay1), (2, .int xy2)]) hx hb zd_Statements_nodesWith_1 rfl hl (Nat.le_of_ble_eq_true rfl) rfl (fun ls hl => ?_)
  refine lv_iconst (v := nI 0) hx hb zd_Statements_nodesWith_2 (by decide) ?_
  refine lv_istore (lv' := [(4, .int (nI 0)), (3, .int (nI 0)), (0, .ref ay0), (1, .ref ay1), (2, .int xy2)]) hx hb zd_Statements_nodesWith_3 hl (Nat.le_of_ble_eq_true rfl) rfl (fun ls hl => ?_)
  exact B5 6 _ _ ls ay1 xy2 (nI 0) (nI 0) σ hI (lv_sub hl [3, 4, 1, 0] rfl) h

def zf_Statements_vote (ay0 : Nat) (xy1 : Int32) (σ : za_h) : Option (Int32 × za_h) :=
  (zg_i σ ay0 7 2).bind fun v2 =>
  (zf_TL_has v2 xy1 σ).bind fun (r3, σ4) =>
  if r3 = 0 then
  ((zg_i σ4 ay0 7 2).bind fun v8 =>
  (zp_f σ4 ay0 7 2 (.int (v8 ||| ((nI 1) <<< (xy1 &&& 31))))).bind fun σ10 =>
  (zg_r σ10 ay0 7 4).bind fun b12 =>
  (zg_i σ10 ay0 7 0).bind fun v14 =>
  (za_ld σ10 b12 0 v14).bind fun v15 =>
  (za_st σ10 b12 0 v14 (v15 ||| ((nI 1) <<< (xy1 &&& 31)))).bind fun σ17 =>
  some ((nI 1), σ17))
  else
  (some ((nI 0), σ4))
set_option maxRecDepth 100000 in
set_option maxHeartbeats 4000000 in
theorem zm_Statements_vote {l : Launch} {D : va_G} {ca : Nat → ClassId} {n0 : Nat} {ay0 : Nat} {xy1 : Int32} {σ σ' : za_h} {r : Int32} (h : zf_Statements_vote ay0 xy1 σ = some (r, σ')) : Met l zy_Statements_vote (za_wy zy_Statements_vote zc_Statements_vote 2 (some .boolean)) { frames := 1, cells := 0, slots := 0, locals := 21 } (za_Pc D ca n0 [.ref ay0, .int xy1] σ) (za_Qi D ca n0 r σ') 0 0 (za_A n0) := by
  refine za_met (by decide) (Nat.le_of_ble_eq_true rfl) ?_
  intro p e s m below meth c ls hx hb hml hr hlk hts hown hnm hK hI hl
  replace hown : s.vm.findClass zR_Statements = some m.cls := hown
  replace hl : lv_has ls 2 [(0, .ref ay0), (1, .int xy1)] := hl
  unfold zf_Statements_vote at h
  refine lv_aload_n hx hb zd_Statements_vote_0 rfl (lv_at hl 0 rfl) ?_
  obtain ⟨v2, e1, h⟩ := zb_o h
  refine za_geti hx hb hts hown hK hI zl_Statements_26 e1 zd_Statements_vote_1 ?_
  refine lv_iload_n hx hb zd_Statements_vote_4 rfl (lv_at hl 1 rfl) ?_
  obtain ⟨⟨r3, σ4⟩, e5, h⟩ := zb_o h
  refine za_calli (za_runS hx hb hml hown hts hK hI (zm_TL_has e5) zj_Statements_29 ⟨rfl, rfl⟩ ⟨Nat.le_of_ble_eq_true rfl, Nat.le_of_ble_eq_true rfl⟩ rfl hl.1 rfl (Nat.le_of_ble_eq_true rfl) zd_Statements_vote_5 ⟨Nat.le_of_ble_eq_true rfl, Nat.le_of_ble_eq_true rfl⟩) hI (fun H locs hI => ?_)
  refine lv_if_eq hx hb (tgt := 13) zd_Statements_vote_8 (by decide) (fun c6 => ?_) (fun c6 => ?_)
  · replace h := zb_t c6 h
    refine lv_aload_n hx hb zd_Statements_vote_13 rfl (lv_at hl 0 rfl) ?_
    refine lv_dup hx hb zd_Statements_vote_14 rfl ?_
    obtain ⟨v8, e7, h⟩ := zb_o h
    refine za_geti hx hb hts hown hK hI zl_Statements_26 e7 zd_Statements_vote_15 ?_
    refine lv_iconst (v := nI 1) hx hb zd_Statements_vote_18 (by decide) ?_
    refine lv_iload_n hx hb zd_Statements_vote_19 rfl (lv_at hl 1 rfl) ?_
    refine lv_ishl hx hb zd_Statements_vote_20 ?_
    refine lv_ior hx hb zd_Statements_vote_21 ?_
    obtain ⟨σ10, e9, h⟩ := zb_o h
    refine za_put hx hb hts hown hK hI zl_Statements_26 e9 rfl rfl zd_Statements_vote_22 (fun H locs hI => ?_)
    refine lv_aload_n hx hb zd_Statements_vote_25 rfl (lv_at hl 0 rfl) ?_
    obtain ⟨b12, e11, h⟩ := zb_o h
    refine za_getr hx hb hts hown hK hI zl_Statements_19 e11 zd_Statements_vote_26 ?_
    refine lv_aload_n hx hb zd_Statements_vote_29 rfl (lv_at hl 0 rfl) ?_
    obtain ⟨v14, e13, h⟩ := zb_o h
    refine za_geti hx hb hts hown hK hI zl_Statements_9 e13 zd_Statements_vote_30 ?_
    refine lv_dup2_11 hx hb zd_Statements_vote_33 rfl rfl ?_
    obtain ⟨v15, e16, h⟩ := zb_o h
    refine za_iald hx hb hK hI e16 zd_Statements_vote_34 ?_
    refine lv_iconst (v := nI 1) hx hb zd_Statements_vote_35 (by decide) ?_
    refine lv_iload_n hx hb zd_Statements_vote_36 rfl (lv_at hl 1 rfl) ?_
    refine lv_ishl hx hb zd_Statements_vote_37 ?_
    refine lv_ior hx hb zd_Statements_vote_38 ?_
    obtain ⟨σ17, e18, h⟩ := zb_o h
    refine za_iast hx hb hK hI e18 zd_Statements_vote_39 (fun H locs hI => ?_)
    refine lv_iconst (v := nI 1) hx hb zd_Statements_vote_40 (by decide) ?_
    exact za_zret hx hb hr hlk hI (by decide) h (Nat.le_of_ble_eq_true rfl) (Nat.le_of_ble_eq_true rfl) zd_Statements_vote_41
  · replace h := zb_f c6 h
    refine lv_iconst (v := nI 0) hx hb zd_Statements_vote_11 (by decide) ?_
    exact za_zret hx hb hr hlk hI (by decide) h (Nat.le_of_ble_eq_true rfl) (Nat.le_of_ble_eq_true rfl) zd_Statements_vote_12

def zf_Int_bitCount (xy0 : Int32) (σ : za_h) : Option (Int32 × za_h) :=
  some (((((((((xy0 - ((za_ushr xy0 (nI 1)) &&& (nI 1431655765))) &&& (nI 858993459)) + ((za_ushr (xy0 - ((za_ushr xy0 (nI 1)) &&& (nI 1431655765))) (nI 2)) &&& (nI 858993459))) + (za_ushr (((xy0 - ((za_ushr xy0 (nI 1)) &&& (nI 1431655765))) &&& (nI 858993459)) + ((za_ushr (xy0 - ((za_ushr xy0 (nI 1)) &&& (nI 1431655765))) (nI 2)) &&& (nI 858993459))) (nI 4))) &&& (nI 252645135)) + (za_ushr (((((xy0 - ((za_ushr xy0 (nI 1)) &&& (nI 1431655765))) &&& (nI 858993459)) + ((za_ushr (xy0 - ((za_ushr xy0 (nI 1)) &&& (nI 1431655765))) (nI 2)) &&& (nI 858993459))) + (za_ushr (((xy0 - ((za_ushr xy0 (nI 1)) &&& (nI 1431655765))) &&& (nI 858993459)) + ((za_ushr (xy0 - ((za_ushr xy0 (nI 1)) &&& (nI 1431655765))) (nI 2)) &&& (nI 858993459))) (nI 4))) &&& (nI 252645135)) (nI 8))) + (za_ushr ((((((xy0 - ((za_ushr xy0 (nI 1)) &&& (nI 1431655765))) &&& (nI 858993459)) + ((za_ushr (xy0 - ((za_ushr xy0 (nI 1)) &&& (nI 1431655765))) (nI 2)) &&& (nI 858993459))) + (za_ushr (((xy0 - ((za_ushr xy0 (nI 1)) &&& (nI 1431655765))) &&& (nI 858993459)) + ((za_ushr (xy0 - ((za_ushr xy0 (nI 1)) &&& (nI 1431655765))) (nI 2)) &&& (nI 858993459))) (nI 4))) &&& (nI 252645135)) + (za_ushr (((((xy0 - ((za_ushr xy0 (nI 1)) &&& (nI 1431655765))) &&& (nI 858993459)) + ((za_ushr (xy0 - ((za_ushr xy0 (nI 1)) &&& (nI 1431655765))) (nI 2)) &&& (nI 858993459))) + (za_ushr (((xy0 - ((za_ushr xy0 (nI 1)) &&& (nI 1431655765))) &&& (nI 858993459)) + ((za_ushr (xy0 - ((za_ushr xy0 (nI 1)) &&& (nI 1431655765))) (nI 2)) &&& (nI 858993459))) (nI 4))) &&& (nI 252645135)) (nI 8))) (nI 16))) &&& (nI 63)), σ)
set_option maxRecDepth 100000 in
set_option maxHeartbeats 4000000 in
theorem zm_Int_bitCount {l : Launch} {D : va_G} {ca : Nat → ClassId} {n0 : Nat} {xy0 : Int32} {σ σ' : za_h} {r : Int32} (h : zf_Int_bitCount xy0 σ = some (r, σ')) : Met l zy_Int_bitCount (za_wy zy_Int_bitCount zc_Int_bitCount 1 (some .int)) { frames := 0, cells := 0, slots := 0, locals := 0 } (za_Pc D ca n0 [.int xy0] σ) (za_Qi D ca n0 r σ') 0 0 (za_A n0) := by
  refine za_met (by decide) (Nat.le_of_ble_eq_true rfl) ?_
  intro p e s m below meth c ls hx hb hml hr hlk hts hown hnm hK hI hl
  replace hown : s.vm.findClass zR_Int = some m.cls := hown
  replace hl : lv_has ls 1 [(0, .int xy0)] := hl
  unfold zf_Int_bitCount at h
  refine lv_iload_n hx hb zd_Int_bitCount_0 rfl (lv_at hl 0 rfl) ?_
  refine lv_iload_n hx hb zd_Int_bitCount_1 rfl (lv_at hl 0 rfl) ?_
  refine lv_iconst (v := nI 1) hx hb zd_Int_bitCount_2 (by decide) ?_
  refine lv_iushr (v := (za_ushr xy0 (nI 1))) hx hb zd_Int_bitCount_3 rfl ?_
  refine lv_ldcw (v := nI 1431655765) hx hb hown (hts _ zk_319) zd_Int_bitCount_4 ?_
  refine lv_iand hx hb zd_Int_bitCount_7 ?_
  refine lv_isub hx hb zd_Int_bitCount_8 ?_
  refine lv_istore_n (lv' := [(0, .int (xy0 - ((za_ushr xy0 (nI 1)) &&& (nI 1431655765))))]) hx hb zd_Int_bitCount_9 rfl hl (Nat.le_of_ble_eq_true rfl) rfl (fun ls hl => ?_)
  refine lv_iload_n hx hb zd_Int_bitCount_10 rfl (lv_at hl 0 rfl) ?_
  refine lv_ldcw (v := nI 858993459) hx hb hown (hts _ zk_320) zd_Int_bitCount_11 ?_
  refine lv_iand hx hb zd_Int_bitCount_14 ?_
  refine lv_iload_n hx hb zd_Int_bitCount_15 rfl (lv_at hl 0 rfl) ?_
  refine lv_iconst (v := nI 2) hx hb zd_Int_bitCount_16 (by decide) ?_
  refine lv_iushr (v := (za_ushr (xy0 - ((za_ushr xy0 (nI 1)) &&& (nI 1431655765))) (nI 2))) hx hb zd_Int_bitCount_17 rfl ?_
  refine lv_ldcw (v := nI 858993459) hx hb hown (hts _ zk_320) zd_Int_bitCount_18 ?_
  refine lv_iand hx hb zd_Int_bitCount_21 ?_
  refine lv_iadd hx hb zd_Int_bitCount_22 ?_
  refine lv_istore_n (lv' := [(0, .int (((xy0 - ((za_ushr xy0 (nI 1)) &&& (nI 1431655765))) &&& (nI 858993459)) + ((za_ushr (xy0 - ((za_ushr xy0 (nI 1)) &&& (nI 1431655765))) (nI 2)) &&& (nI 858993459))))]) hx hb zd_Int_bitCount_23 rfl hl (Nat.le_of_ble_eq_true rfl) rfl (fun ls hl => ?_)
  refine lv_iload_n hx hb zd_Int_bitCount_24 rfl (lv_at hl 0 rfl) ?_
  refine lv_iload_n hx hb zd_Int_bitCount_25 rfl (lv_at hl 0 rfl) ?_
  refine lv_iconst (v := nI 4) hx hb zd_Int_bitCount_26 (by decide) ?_
  refine lv_iushr (v := (za_ushr (((xy0 - ((za_ushr xy0 (nI 1)) &&& (nI 1431655765))) &&& (nI 858993459)) + ((za_ushr (xy0 - ((za_ushr xy0 (nI 1)) &&& (nI 1431655765))) (nI 2)) &&& (nI 858993459))) (nI 4))) hx hb zd_Int_bitCount_27 rfl ?_
  refine lv_iadd hx hb zd_Int_bitCount_28 ?_
  refine lv_ldcw (v := nI 252645135) hx hb hown (hts _ zk_321) zd_Int_bitCount_29 ?_
  refine lv_iand hx hb zd_Int_bitCount_32 ?_
  refine lv_istore_n (lv' := [(0, .int (((((xy0 - ((za_ushr xy0 (nI 1)) &&& (nI 1431655765))) &&& (nI 858993459)) + ((za_ushr (xy0 - ((za_ushr xy0 (nI 1)) &&& (nI 1431655765))) (nI 2)) &&& (nI 858993459))) + (za_ushr (((xy0 - ((za_ushr xy0 (nI 1)) &&& (nI 1431655765))) &&& (nI 858993459)) + ((za_ushr (xy0 - ((za_ushr xy0 (nI 1)) &&& (nI 1431655765))) (nI 2)) &&& (nI 858993459))) (nI 4))) &&& (nI 252645135)))]) hx hb zd_Int_bitCount_33 rfl hl (Nat.le_of_ble_eq_true rfl) rfl (fun ls hl => ?_)
  refine lv_iload_n hx hb zd_Int_bitCount_34 rfl (lv_at hl 0 rfl) ?_
  refine lv_iload_n hx hb zd_Int_bitCount_35 rfl (lv_at hl 0 rfl) ?_
  refine lv_bipush (v := nI 8) hx hb zd_Int_bitCount_36 (by decide) ?_
  refine lv_iushr (v := (za_ushr (((((xy0 - ((za_ushr xy0 (nI 1)) &&& (nI 1431655765))) &&& (nI 858993459)) + ((za_ushr (xy0 - ((za_ushr xy0 (nI 1)) &&& (nI 1431655765))) (nI 2)) &&& (nI 858993459))) + (za_ushr (((xy0 - ((za_ushr xy0 (nI 1)) &&& (nI 1431655765))) &&& (nI 858993459)) + ((za_ushr (xy0 - ((za_ushr xy0 (nI 1)) &&& (nI 1431655765))) (nI 2)) &&& (nI 858993459))) (nI 4))) &&& (nI 252645135)) (nI 8))) hx hb zd_Int_bitCount_38 rfl ?_
  refine lv_iadd hx hb zd_Int_bitCount_39 ?_
  refine lv_istore_n (lv' := [(0, .int ((((((xy0 - ((za_ushr xy0 (nI 1)) &&& (nI 1431655765))) &&& (nI 858993459)) + ((za_ushr (xy0 - ((za_ushr xy0 (nI 1)) &&& (nI 1431655765))) (nI 2)) &&& (nI 858993459))) + (za_ushr (((xy0 - ((za_ushr xy0 (nI 1)) &&& (nI 1431655765))) &&& (nI 858993459)) + ((za_ushr (xy0 - ((za_ushr xy0 (nI 1)) &&& (nI 1431655765))) (nI 2)) &&& (nI 858993459))) (nI 4))) &&& (nI 252645135)) + (za_ushr (((((xy0 - ((za_ushr xy0 (nI 1)) &&& (nI 1431655765))) &&& (nI 858993459)) + ((za_ushr (xy0 - ((za_ushr xy0 (nI 1)) &&& (nI 1431655765))) (nI 2)) &&& (nI 858993459))) + (za_ushr (((xy0 - ((za_ushr xy0 (nI 1)) &&& (nI 1431655765))) &&& (nI 858993459)) + ((za_ushr (xy0 - ((za_ushr xy0 (nI 1)) &&& (nI 1431655765))) (nI 2)) &&& (nI 858993459))) (nI 4))) &&& (nI 252645135)) (nI 8))))]) hx hb zd_Int_bitCount_40 rfl hl (Nat.le_of_ble_eq_true rfl) rfl (fun ls hl => ?_)
  refine lv_iload_n hx hb zd_Int_bitCount_41 rfl (lv_at hl 0 rfl) ?_
  refine lv_iload_n hx hb zd_Int_bitCount_42 rfl (lv_at hl 0 rfl) ?_
  refine lv_bipush (v := nI 16) hx hb zd_Int_bitCount_43 (by decide) ?_
  refine lv_iushr (v := (za_ushr ((((((xy0 - ((za_ushr xy0 (nI 1)) &&& (nI 1431655765))) &&& (nI 858993459)) + ((za_ushr (xy0 - ((za_ushr xy0 (nI 1)) &&& (nI 1431655765))) (nI 2)) &&& (nI 858993459))) + (za_ushr (((xy0 - ((za_ushr xy0 (nI 1)) &&& (nI 1431655765))) &&& (nI 858993459)) + ((za_ushr (xy0 - ((za_ushr xy0 (nI 1)) &&& (nI 1431655765))) (nI 2)) &&& (nI 858993459))) (nI 4))) &&& (nI 252645135)) + (za_ushr (((((xy0 - ((za_ushr xy0 (nI 1)) &&& (nI 1431655765))) &&& (nI 858993459)) + ((za_ushr (xy0 - ((za_ushr xy0 (nI 1)) &&& (nI 1431655765))) (nI 2)) &&& (nI 858993459))) + (za_ushr (((xy0 - ((za_ushr xy0 (nI 1)) &&& (nI 1431655765))) &&& (nI 858993459)) + ((za_ushr (xy0 - ((za_ushr xy0 (nI 1)) &&& (nI 1431655765))) (nI 2)) &&& (nI 858993459))) (nI 4))) &&& (nI 252645135)) (nI 8))) (nI 16))) hx hb zd_Int_bitCount_45 rfl ?_
  refine lv_iadd hx hb zd_Int_bitCount_46 ?_
  refine lv_istore_n (lv' := [(0, .int (((((((xy0 - ((za_ushr xy0 (nI 1)) &&& (nI 1431655765))) &&& (nI 858993459)) + ((za_ushr (xy0 - ((za_ushr xy0 (nI 1)) &&& (nI 1431655765))) (nI 2)) &&& (nI 858993459))) + (za_ushr (((xy0 - ((za_ushr xy0 (nI 1)) &&& (nI 1431655765))) &&& (nI 858993459)) + ((za_ushr (xy0 - ((za_ushr xy0 (nI 1)) &&& (nI 1431655765))) (nI 2)) &&& (nI 858993459))) (nI 4))) &&& (nI 252645135)) + (za_ushr (((((xy0 - ((za_ushr xy0 (nI 1)) &&& (nI 1431655765))) &&& (nI 858993459)) + ((za_ushr (xy0 - ((za_ushr xy0 (nI 1)) &&& (nI 1431655765))) (nI 2)) &&& (nI 858993459))) + (za_ushr (((xy0 - ((za_ushr xy0 (nI 1)) &&& (nI 1431655765))) &&& (nI 858993459)) + ((za_ushr (xy0 - ((za_ushr xy0 (nI 1)) &&& (nI 1431655765))) (nI 2)) &&& (nI 858993459))) (nI 4))) &&& (nI 252645135)) (nI 8))) + (za_ushr ((((((xy0 - ((za_ushr xy0 (nI 1)) &&& (nI 1431655765))) &&& (nI 858993459)) + ((za_ushr (xy0 - ((za_ushr xy0 (nI 1)) &&& (nI 1431655765))) (nI 2)) &&& (nI 858993459))) + (za_ushr (((xy0 - ((za_ushr xy0 (nI 1)) &&& (nI 1431655765))) &&& (nI 858993459)) + ((za_ushr (xy0 - ((za_ushr xy0 (nI 1)) &&& (nI 1431655765))) (nI 2)) &&& (nI 858993459))) (nI 4))) &&& (nI 252645135)) + (za_ushr (((((xy0 - ((za_ushr xy0 (nI 1)) &&& (nI 1431655765))) &&& (nI 858993459)) + ((za_ushr (xy0 - ((za_ushr xy0 (nI 1)) &&& (nI 1431655765))) (nI 2)) &&& (nI 858993459))) + (za_ushr (((xy0 - ((za_ushr xy0 (nI 1)) &&& (nI 1431655765))) &&& (nI 858993459)) + ((za_ushr (xy0 - ((za_ushr xy0 (nI 1)) &&& (nI 1431655765))) (nI 2)) &&& (nI 858993459))) (nI 4))) &&& (nI 252645135)) (nI 8))) (nI 16))))]) hx hb zd_Int_bitCount_47 rfl hl (Nat.le_of_ble_eq_true rfl) rfl (fun ls hl => ?_)
  refine lv_iload_n hx hb zd_Int_bitCount_48 rfl (lv_at hl 0 rfl) ?_
  refine lv_bipush (v := nI 63) hx hb zd_Int_bitCount_49 (by decide) ?_
  refine lv_iand hx hb zd_Int_bitCount_51 ?_
  exact za_iret hx hb hr hlk hI h (Nat.le_of_ble_eq_true rfl) (Nat.le_of_ble_eq_true rfl) zd_Int_bitCount_52

def zf_Trust_isSatisfiedBy_49 (xs0 : Int32) (σ : za_h) : Option (Int32 × za_h) :=
  if xs0 = 0 ∨ xs0 = 1 then some (xs0, σ) else none

def zf_Trust_isSatisfiedBy_36 (a0 : Nat) (x2 : Int32) (σ : za_h) : Option (Int32 × za_h) :=
  (zg_i σ a0 9 0).bind fun v2 =>
  if x2 < v2 then
  (zf_Trust_isSatisfiedBy_49 (nI 0) σ)
  else
  (zf_Trust_isSatisfiedBy_49 (nI 1) σ)

def zf_Trust_isSatisfiedBy (ay0 : Nat) (xy1 : Int32) (σ : za_h) : Option (Int32 × za_h) :=
  (zg_i σ ay0 9 1).bind fun v2 =>
  (zf_Int_bitCount (xy1 &&& v2) σ).bind fun (r3, σ4) =>
  (zg_i σ4 ay0 9 2).bind fun v7 =>
  if v7 ≤ 0 then
  (zf_Trust_isSatisfiedBy_36 ay0 r3 σ4)
  else
  ((zg_i σ4 ay0 9 3).bind fun v10 =>
  (zf_Int_bitCount (xy1 &&& v10) σ4).bind fun (r11, σ12) =>
  (zg_i σ12 ay0 9 2).bind fun v15 =>
  if r11 < v15 then
  (zf_Trust_isSatisfiedBy_36 ay0 r3 σ12)
  else
  (zf_Trust_isSatisfiedBy_36 ay0 (r3 + nI 1) σ12))
set_option maxRecDepth 100000 in
set_option maxHeartbeats 4000000 in
theorem zm_Trust_isSatisfiedBy {l : Launch} {D : va_G} {ca : Nat → ClassId} {n0 : Nat} {ay0 : Nat} {xy1 : Int32} {σ σ' : za_h} {r : Int32} (h : zf_Trust_isSatisfiedBy ay0 xy1 σ = some (r, σ')) : Met l zy_Trust_isSatisfiedBy (za_wy zy_Trust_isSatisfiedBy zc_Trust_isSatisfiedBy 3 (some .boolean)) { frames := 1, cells := 0, slots := 0, locals := 20 } (za_Pc D ca n0 [.ref ay0, .int xy1] σ) (za_Qi D ca n0 r σ') 0 0 (za_A n0) := by
  refine za_met (by decide) (Nat.le_of_ble_eq_true rfl) ?_
  intro p e s m below meth c ls hx hb hml hr hlk hts hown hnm hK hI hl
  replace hown : s.vm.findClass zR_Trust = some m.cls := hown
  replace hl : lv_has ls 3 [(0, .ref ay0), (1, .int xy1)] := hl
  have B49 : ∀ (H : Heap) (locs : List Loc) (ls : Array Slot) (xs0 : Int32) (σ : za_h), za_I D ca n0 s σ H locs → lv_has ls 3 [] → zf_Trust_isSatisfiedBy_49 xs0 σ = some (r, σ') → W p l e ({ frames := 1, cells := 0, slots := 0, locals := 20 }) s m ([.ref ay0, .int xy1] : List Value).toArray below meth c H locs 0 0 (MQ below (za_Qi D ca n0 r σ') ([.ref ay0, .int xy1] : List Value).toArray s 0 0 (za_A n0)) (F0 m 49 ls [.int xs0]) := by
    intro H locs ls xs0 σ hI hl h
    unfold zf_Trust_isSatisfiedBy_49 at h
    obtain ⟨g1, h⟩ := zb_g h
    exact za_zret hx hb hr hlk hI g1 h (Nat.le_of_ble_eq_true rfl) (Nat.le_of_ble_eq_true rfl) zd_Trust_isSatisfiedBy_49
  have B36 : ∀ (H : Heap) (locs : List Loc) (ls : Array Slot) (a0 : Nat) (x2 : Int32) (σ : za_h), za_I D ca n0 s σ H locs → lv_has ls 3 [(0, .ref a0), (2, .int x2)] → zf_Trust_isSatisfiedBy_36 a0 x2 σ = some (r, σ') → W p l e ({ frames := 1, cells := 0, slots := 0, locals := 20 }) s m ([.ref ay0, .int xy1] : List Value).toArray below meth c H locs 0 0 (MQ below (za_Qi D ca n0 r σ') ([.ref ay0, .int xy1] : List Value).toArray s 0 0 (za_A n0)) (F0 m 36 ls []) := by
    intro H locs ls a0 x2 σ hI hl h
    unfold zf_Trust_isSatisfiedBy_36 at h
    refine lv_iload_n hx hb zd_Trust_isSatisfiedBy_36 rfl (lv_at hl 1 rfl) ?_
    refine lv_aload_n hx hb zd_Trust_isSatisfiedBy_37 rfl (lv_at hl 0 rfl) ?_
    obtain ⟨v2, e1, h⟩ := zb_o h
    refine za_geti hx hb hts hown hK hI zl_Trust_9 e1 zd_Trust_isSatisfiedBy_38 ?_
    refine lv_icmp_lt hx hb (tgt := 48) zd_Trust_isSatisfiedBy_41 (by decide) (fun c3 => ?_) (fun c3 => ?_)
    · replace h := zb_t c3 h
      refine lv_iconst (v := nI 0) hx hb zd_Trust_isSatisfiedBy_48 (by decide) ?_
      exact B49 _ _ ls (nI 0) σ hI (lv_sub hl [] rfl) h
    · replace h := zb_f c3 h
      refine lv_iconst (v := nI 1) hx hb zd_Trust_isSatisfiedBy_44 (by decide) ?_
      refine lv_goto hx hb (tgt := 49) zd_Trust_isSatisfiedBy_45 (by decide) ?_
      exact B49 _ _ ls (nI 1) σ hI (lv_sub hl [] rfl) h
  unfold zf_Trust_isSatisfiedBy at h
  refine lv_iload_n hx hb zd_Trust_isSatisfiedBy_0 rfl (lv_at hl 1 rfl) ?_
  refine lv_aload_n hx hb zd_Trust_isSatisfiedBy_1 rfl (lv_at hl 0 rfl) ?_
  obtain ⟨v2, e1, h⟩ := zb_o h
  refine za_geti hx hb hts hown hK hI zl_Trust_15 e1 zd_Trust_isSatisfiedBy_2 ?_
  refine lv_iand hx hb zd_Trust_isSatisfiedBy_5 ?_
  obtain ⟨⟨r3, σ4⟩, e5, h⟩ := zb_o h
  refine za_calli (za_runS hx hb hml hown hts hK hI (zm_Int_bitCount e5) zj_Trust_24 ⟨rfl, rfl⟩ ⟨Nat.le_of_ble_eq_true rfl, Nat.le_of_ble_eq_true rfl⟩ rfl hl.1 rfl (Nat.le_of_ble_eq_true rfl) zd_Trust_isSatisfiedBy_6 ⟨Nat.le_of_ble_eq_true rfl, Nat.le_of_ble_eq_true rfl⟩) hI (fun H locs hI => ?_)
  refine lv_istore_n (lv' := [(2, .int r3), (0, .ref ay0), (1, .int xy1)]) hx hb zd_Trust_isSatisfiedBy_9 rfl hl (Nat.le_of_ble_eq_true rfl) rfl (fun ls hl => ?_)
  refine lv_aload_n hx hb zd_Trust_isSatisfiedBy_10 rfl (lv_at hl 1 rfl) ?_
  obtain ⟨v7, e6, h⟩ := zb_o h
  refine za_geti hx hb hts hown hK hI zl_Trust_18 e6 zd_Trust_isSatisfiedBy_11 ?_
  refine lv_if_le hx hb (tgt := 36) zd_Trust_isSatisfiedBy_14 (by decide) (fun c8 => ?_) (fun c8 => ?_)
  · replace h := zb_t c8 h
    exact B36 _ _ ls ay0 r3 σ4 hI (lv_sub hl [1, 0] rfl) h
  · replace h := zb_f c8 h
    refine lv_iload_n hx hb zd_Trust_isSatisfiedBy_17 rfl (lv_at hl 2 rfl) ?_
    refine lv_aload_n hx hb zd_Trust_isSatisfiedBy_18 rfl (lv_at hl 1 rfl) ?_
    obtain ⟨v10, e9, h⟩ := zb_o h
    refine za_geti hx hb hts hown hK hI zl_Trust_21 e9 zd_Trust_isSatisfiedBy_19 ?_
    refine lv_iand hx hb zd_Trust_isSatisfiedBy_22 ?_
    obtain ⟨⟨r11, σ12⟩, e13, h⟩ := zb_o h
    refine za_calli (za_runS hx hb hml hown hts hK hI (zm_Int_bitCount e13) zj_Trust_24 ⟨rfl, rfl⟩ ⟨Nat.le_of_ble_eq_true rfl, Nat.le_of_ble_eq_true rfl⟩ rfl hl.1 rfl (Nat.le_of_ble_eq_true rfl) zd_Trust_isSatisfiedBy_23 ⟨Nat.le_of_ble_eq_true rfl, Nat.le_of_ble_eq_true rfl⟩) hI (fun H locs hI => ?_)
    refine lv_aload_n hx hb zd_Trust_isSatisfiedBy_26 rfl (lv_at hl 1 rfl) ?_
    obtain ⟨v15, e14, h⟩ := zb_o h
    refine za_geti hx hb hts hown hK hI zl_Trust_18 e14 zd_Trust_isSatisfiedBy_27 ?_
    refine lv_icmp_lt hx hb (tgt := 36) zd_Trust_isSatisfiedBy_30 (by decide) (fun c16 => ?_) (fun c16 => ?_)
    · replace h := zb_t c16 h
      exact B36 _ _ ls ay0 r3 σ12 hI (lv_sub hl [1, 0] rfl) h
    · replace h := zb_f c16 h
      refine lv_iinc (k := 0) (v := (r3 + nI 1)) (lv' := [(2, .int (r3 + nI 1)), (0, .ref ay0), (1, .int xy1)]) hx hb zd_Trust_isSatisfiedBy_33 hl rfl rfl (Nat.le_of_ble_eq_true rfl) rfl (fun ls hl => ?_)
      exact B36 _ _ ls ay0 (r3 + nI 1) σ12 hI (lv_sub hl [1, 0] rfl) h

def zf_Quorums_isGivenTo_83  (σ : za_h) : Option (Int32 × za_h) :=
  some ((nI 0), σ)

def zf_Quorums_isGivenTo_63 (k5 : Nat → Int32 → Int32 → Int32 → za_h → Option (Int32 × za_h)) (k25 : Nat → Int32 → Int32 → Int32 → Int32 → Int32 → za_h → Option (Int32 × za_h)) (a0 : Nat) (x1 : Int32) (x3 : Int32) (x4 : Int32) (x5 : Int32) (x6 : Int32) (σ : za_h) : Option (Int32 × za_h) :=
  k25 a0 x1 x3 x4 x5 (x6 + nI 1) σ

def zf_Quorums_isGivenTo_25 (k5 : Nat → Int32 → Int32 → Int32 → za_h → Option (Int32 × za_h)) : Nat → Nat → Int32 → Int32 → Int32 → Int32 → Int32 → za_h → Option (Int32 × za_h)
  | 0, _, _, _, _, _, _, _ => none
  | n + 1, a0, x1, x3, x4, x5, x6, σ =>
  if (nI 5) ≤ x6 then
  (if x3 = x5 then
  (some ((nI 1), σ))
  else
  (k5 a0 x1 x3 (x4 + nI 1) σ))
  else
  ((zf_TL_has x3 x6 σ).bind fun (r3, σ4) =>
  if r3 = 0 then
  (zf_Quorums_isGivenTo_63 k5 (zf_Quorums_isGivenTo_25 k5 n) a0 x1 x3 x4 x5 x6 σ4)
  else
  ((zg_r σ4 a0 6 0).bind fun b8 =>
  (za_ln σ4 b8 7 x6).bind fun b9 =>
  (zg_c σ4 b9 9).bind fun _ =>
  (zf_Trust_isSatisfiedBy b9 x3 σ4).bind fun (r12, σ13) =>
  if r12 = 0 then
  (zf_Quorums_isGivenTo_63 k5 (zf_Quorums_isGivenTo_25 k5 n) a0 x1 (x3 &&& (((nI 1) <<< (x6 &&& 31)) ^^^ (-1))) x4 x5 x6 σ13)
  else
  (zf_Quorums_isGivenTo_63 k5 (zf_Quorums_isGivenTo_25 k5 n) a0 x1 x3 x4 x5 x6 σ13)))

def zf_Quorums_isGivenTo_5 : Nat → Nat → Int32 → Int32 → Int32 → za_h → Option (Int32 × za_h)
  | 0, _, _, _, _, _ => none
  | n + 1, a0, x1, x3, x4, σ =>
  if (nI 5) ≤ x4 then
  (zf_Quorums_isGivenTo_83 σ)
  else
  ((zf_TL_has x3 x1 σ).bind fun (r2, σ3) =>
  if r2 = 0 then
  (zf_Quorums_isGivenTo_83 σ3)
  else
  (zf_Quorums_isGivenTo_25 (zf_Quorums_isGivenTo_5 n) 6 a0 x1 x3 x4 x3 (nI 0) σ3))

def zf_Quorums_isGivenTo (ay0 : Nat) (xy1 : Int32) (xy2 : Int32) (σ : za_h) : Option (Int32 × za_h) :=
  zf_Quorums_isGivenTo_5 6 ay0 xy1 xy2 (nI 0) σ
set_option maxRecDepth 100000 in
set_option maxHeartbeats 4000000 in
theorem zm_Quorums_isGivenTo {l : Launch} {D : va_G} {ca : Nat → ClassId} {n0 : Nat} {ay0 : Nat} {xy1 : Int32} {xy2 : Int32} {σ σ' : za_h} {r : Int32} (h : zf_Quorums_isGivenTo ay0 xy1 xy2 σ = some (r, σ')) : Met l zy_Quorums_isGivenTo (za_wy zy_Quorums_isGivenTo zc_Quorums_isGivenTo 7 (some .boolean)) { frames := 2, cells := 0, slots := 0, locals := 42 } (za_Pc D ca n0 [.ref ay0, .int xy1, .int xy2] σ) (za_Qi D ca n0 r σ') 0 0 (za_A n0) := by
  refine za_met (by decide) (Nat.le_of_ble_eq_true rfl) ?_
  intro p e s m below meth c ls hx hb hml hr hlk hts hown hnm hK hI hl
  replace hown : s.vm.findClass zR_Quorums = some m.cls := hown
  replace hl : lv_has ls 7 [(0, .ref ay0), (1, .int xy1), (2, .int xy2)] := hl
  have B83 : ∀ (H : Heap) (locs : List Loc) (ls : Array Slot) (σ : za_h), za_I D ca n0 s σ H locs → lv_has ls 7 [] → zf_Quorums_isGivenTo_83 σ = some (r, σ') → W p l e ({ frames := 2, cells := 0, slots := 0, locals := 42 }) s m ([.ref ay0, .int xy1, .int xy2] : List Value).toArray below meth c H locs 0 0 (MQ below (za_Qi D ca n0 r σ') ([.ref ay0, .int xy1, .int xy2] : List Value).toArray s 0 0 (za_A n0)) (F0 m 83 ls []) := by
    intro H locs ls σ hI hl h
    unfold zf_Quorums_isGivenTo_83 at h
    refine lv_iconst (v := nI 0) hx hb zd_Quorums_isGivenTo_83 (by decide) ?_
    exact za_zret hx hb hr hlk hI (by decide) h (Nat.le_of_ble_eq_true rfl) (Nat.le_of_ble_eq_true rfl) zd_Quorums_isGivenTo_84
  have B63 : ∀ (k5 : Nat → Int32 → Int32 → Int32 → za_h → Option (Int32 × za_h)), (∀ (H : Heap) (locs : List Loc) (ls : Array Slot) (a0 : Nat) (x1 : Int32) (x3 : Int32) (x4 : Int32) (σ : za_h), za_I D ca n0 s σ H locs → lv_has ls 7 [(0, .ref a0), (1, .int x1), (3, .int x3), (4, .int x4)] → k5 a0 x1 x3 x4 σ = some (r, σ') → W p l e ({ frames := 2, cells := 0, slots := 0, locals := 42 }) s m ([.ref ay0, .int xy1, .int xy2] : List Value).toArray below meth c H locs 0 0 (MQ below (za_Qi D ca n0 r σ') ([.ref ay0, .int xy1, .int xy2] : List Value).toArray s 0 0 (za_A n0)) (F0 m 5 ls [])) → ∀ (k25 : Nat → Int32 → Int32 → Int32 → Int32 → Int32 → za_h → Option (Int32 × za_h)), (∀ (H : Heap) (locs : List Loc) (ls : Array Slot) (a0 : Nat) (x1 : Int32) (x3 : Int32) (x4 : Int32) (x5 : Int32) (x6 : Int32) (σ : za_h), za_I D ca n0 s σ H locs → lv_has ls 7 [(0, .ref a0), (1, .int x1), (3, .int x3), (4, .int x4), (5, .int x5), (6, .int x6)] → k25 a0 x1 x3 x4 x5 x6 σ = some (r, σ') → W p l e ({ frames := 2, cells := 0, slots := 0, locals := 42 }) s m ([.ref ay0, .int xy1, .int xy2] : List Value).toArray below meth c H locs 0 0 (MQ below (za_Qi D ca n0 r σ') ([.ref ay0, .int xy1, .int xy2] : List Value).toArray s 0 0 (za_A n0)) (F0 m 25 ls [])) → ∀ (H : Heap) (locs : List Loc) (ls : Array Slot) (a0 : Nat) (x1 : Int32) (x3 : Int32) (x4 : Int32) (x5 : Int32) (x6 : Int32) (σ : za_h), za_I D ca n0 s σ H locs → lv_has ls 7 [(0, .ref a0), (1, .int x1), (3, .int x3), (4, .int x4), (5, .int x5), (6, .int x6)] → zf_Quorums_isGivenTo_63 k5 k25 a0 x1 x3 x4 x5 x6 σ = some (r, σ') → W p l e ({ frames := 2, cells := 0, slots := 0, locals := 42 }) s m ([.ref ay0, .int xy1, .int xy2] : List Value).toArray below meth c H locs 0 0 (MQ below (za_Qi D ca n0 r σ') ([.ref ay0, .int xy1, .int xy2] : List Value).toArray s 0 0 (za_A n0)) (F0 m 63 ls []) := by
    intro k5 hk5 k25 hk25 H locs ls a0 x1 x3 x4 x5 x6 σ hI hl h
    unfold zf_Quorums_isGivenTo_63 at h
    refine lv_iinc (k := 5) (v := (x6 + nI 1)) (lv' := [(6, .int (x6 + nI 1)), (0, .ref a0), (1, .int x1), (3, .int x3), (4, .int x4), (5, .int x5)]) hx hb zd_Quorums_isGivenTo_63 hl rfl rfl (Nat.le_of_ble_eq_true rfl) rfl (fun ls hl => ?_)
    refine lv_goto hx hb (tgt := 25) zd_Quorums_isGivenTo_66 (by decide) ?_
    exact hk25 _ _ ls a0 x1 x3 x4 x5 (x6 + nI 1) σ hI (lv_sub hl [1, 2, 3, 4, 5, 0] rfl) h
  have B25 : ∀ (k5 : Nat → Int32 → Int32 → Int32 → za_h → Option (Int32 × za_h)), (∀ (H : Heap) (locs : List Loc) (ls : Array Slot) (a0 : Nat) (x1 : Int32) (x3 : Int32) (x4 : Int32) (σ : za_h), za_I D ca n0 s σ H locs → lv_has ls 7 [(0, .ref a0), (1, .int x1), (3, .int x3), (4, .int x4)] → k5 a0 x1 x3 x4 σ = some (r, σ') → W p l e ({ frames := 2, cells := 0, slots := 0, locals := 42 }) s m ([.ref ay0, .int xy1, .int xy2] : List Value).toArray below meth c H locs 0 0 (MQ below (za_Qi D ca n0 r σ') ([.ref ay0, .int xy1, .int xy2] : List Value).toArray s 0 0 (za_A n0)) (F0 m 5 ls [])) → ∀ n : Nat, ∀ (H : Heap) (locs : List Loc) (ls : Array Slot) (a0 : Nat) (x1 : Int32) (x3 : Int32) (x4 : Int32) (x5 : Int32) (x6 : Int32) (σ : za_h), za_I D ca n0 s σ H locs → lv_has ls 7 [(0, .ref a0), (1, .int x1), (3, .int x3), (4, .int x4), (5, .int x5), (6, .int x6)] → zf_Quorums_isGivenTo_25 k5 n a0 x1 x3 x4 x5 x6 σ = some (r, σ') → W p l e ({ frames := 2, cells := 0, slots := 0, locals := 42 }) s m ([.ref ay0, .int xy1, .int xy2] : List Value).toArray below meth c H locs 0 0 (MQ below (za_Qi D ca n0 r σ') ([.ref ay0, .int xy1, .int xy2] : List Value).toArray s 0 0 (za_A n0)) (F0 m 25 ls []) := by
    intro k5 hk5 n
    induction n with
    | zero => intro H locs ls a0 x1 x3 x4 x5 x6 σ hI hl h; rw [zf_Quorums_isGivenTo_25] at h; cases h
    | succ n ih =>
      intro H locs ls a0 x1 x3 x4 x5 x6 σ hI hl h
      rw [zf_Quorums_isGivenTo_25] at h
      refine lv_iload hx hb zd_Quorums_isGivenTo_25 (lv_at hl 5 rfl) ?_
      refine lv_iconst (v := nI 5) hx hb zd_Quorums_isGivenTo_27 (by decide) ?_
      refine lv_icmp_ge hx hb (tgt := 69) zd_Quorums_isGivenTo_28 (by decide) (fun c1 => ?_) (fun c1 => ?_)
      · replace h := zb_t c1 h
        refine lv_iload_n hx hb zd_Quorums_isGivenTo_69 rfl (lv_at hl 2 rfl) ?_
        refine lv_iload hx hb zd_Quorums_isGivenTo_70 (lv_at hl 4 rfl) ?_
        refine lv_icmp_ne hx hb (tgt := 77) zd_Quorums_isGivenTo_72 (by decide) (fun c2 => ?_) (fun c2 => ?_)
        · replace h := zb_f c2 h
          refine lv_iinc (k := 3) (v := (x4 + nI 1)) (lv' := [(4, .int (x4 + nI 1)), (0, .ref a0), (1, .int x1), (3, .int x3), (5, .int x5), (6, .int x6)]) hx hb zd_Quorums_isGivenTo_77 hl rfl rfl (Nat.le_of_ble_eq_true rfl) rfl (fun ls hl => ?_)
          refine lv_goto hx hb (tgt := 5) zd_Quorums_isGivenTo_80 (by decide) ?_
          exact hk5 _ _ ls a0 x1 x3 (x4 + nI 1) σ hI (lv_sub hl [1, 2, 3, 0] rfl) h
        · replace h := zb_t c2 h
          refine lv_iconst (v := nI 1) hx hb zd_Quorums_isGivenTo_75 (by decide) ?_
          exact za_zret hx hb hr hlk hI (by decide) h (Nat.le_of_ble_eq_true rfl) (Nat.le_of_ble_eq_true rfl) zd_Quorums_isGivenTo_76
      · replace h := zb_f c1 h
        refine lv_iload_n hx hb zd_Quorums_isGivenTo_31 rfl (lv_at hl 2 rfl) ?_
        refine lv_iload hx hb zd_Quorums_isGivenTo_32 (lv_at hl 5 rfl) ?_
        obtain ⟨⟨r3, σ4⟩, e5, h⟩ := zb_o h
        refine za_calli (za_runS hx hb hml hown hts hK hI (zm_TL_has e5) zj_Quorums_18 ⟨rfl, rfl⟩ ⟨Nat.le_of_ble_eq_true rfl, Nat.le_of_ble_eq_true rfl⟩ rfl hl.1 rfl (Nat.le_of_ble_eq_true rfl) zd_Quorums_isGivenTo_34 ⟨Nat.le_of_ble_eq_true rfl, Nat.le_of_ble_eq_true rfl⟩) hI (fun H locs hI => ?_)
        refine lv_if_eq hx hb (tgt := 63) zd_Quorums_isGivenTo_37 (by decide) (fun c6 => ?_) (fun c6 => ?_)
        · replace h := zb_t c6 h
          exact B63 _ hk5 _ ih _ _ ls a0 x1 x3 x4 x5 x6 σ4 hI (lv_sub hl [0, 1, 2, 3, 4, 5] rfl) h
        · replace h := zb_f c6 h
          refine lv_aload_n hx hb zd_Quorums_isGivenTo_40 rfl (lv_at hl 0 rfl) ?_
          obtain ⟨b8, e7, h⟩ := zb_o h
          refine za_getr hx hb hts hown hK hI zl_Quorums_11 e7 zd_Quorums_isGivenTo_41 ?_
          refine lv_iload hx hb zd_Quorums_isGivenTo_44 (lv_at hl 5 rfl) ?_
          obtain ⟨b9, e10, h⟩ := zb_o h
          refine za_aaln hx hb hK hI (t := 7) rfl e10 zd_Quorums_isGivenTo_46 ?_
          refine lv_iload_n hx hb zd_Quorums_isGivenTo_47 rfl (lv_at hl 2 rfl) ?_
          obtain ⟨_, g11, h⟩ := zb_o h
          obtain ⟨⟨r12, σ13⟩, e14, h⟩ := zb_o h
          refine za_calli (za_runV hx hb hml hown hts hK hI g11 (zm_Trust_isSatisfiedBy e14) zj_Quorums_22 ⟨rfl, rfl⟩ ⟨Nat.le_of_ble_eq_true rfl, Nat.le_of_ble_eq_true rfl⟩ rfl hl.1 rfl (Nat.le_of_ble_eq_true rfl) zd_Quorums_isGivenTo_48 ⟨Nat.le_of_ble_eq_true rfl, Nat.le_of_ble_eq_true rfl⟩) hI (fun H locs hI => ?_)
          refine lv_if_ne hx hb (tgt := 63) zd_Quorums_isGivenTo_51 (by decide) (fun c15 => ?_) (fun c15 => ?_)
          · replace h := zb_f c15 h
            exact B63 _ hk5 _ ih _ _ ls a0 x1 x3 x4 x5 x6 σ13 hI (lv_sub hl [0, 1, 2, 3, 4, 5] rfl) h
          · replace h := zb_t c15 h
            refine lv_iload_n hx hb zd_Quorums_isGivenTo_54 rfl (lv_at hl 2 rfl) ?_
            refine lv_iconst (v := nI 1) hx hb zd_Quorums_isGivenTo_55 (by decide) ?_
            refine lv_iload hx hb zd_Quorums_isGivenTo_56 (lv_at hl 5 rfl) ?_
            refine lv_ishl hx hb zd_Quorums_isGivenTo_58 ?_
            refine lv_iconst (v := -1) hx hb zd_Quorums_isGivenTo_59 (by decide) ?_
            refine lv_ixor hx hb zd_Quorums_isGivenTo_60 ?_
            refine lv_iand hx hb zd_Quorums_isGivenTo_61 ?_
            refine lv_istore_n (lv' := [(3, .int (x3 &&& (((nI 1) <<< (x6 &&& 31)) ^^^ (-1)))), (0, .ref a0), (1, .int x1), (4, .int x4), (5, .int x5), (6, .int x6)]) hx hb zd_Quorums_isGivenTo_62 rfl hl (Nat.le_of_ble_eq_true rfl) rfl (fun ls hl => ?_)
            exact B63 _ hk5 _ ih _ _ ls a0 x1 (x3 &&& (((nI 1) <<< (x6 &&& 31)) ^^^ (-1))) x4 x5 x6 σ13 hI (lv_sub hl [1, 2, 0, 3, 4, 5] rfl) h
  have B5 : ∀ n : Nat, ∀ (H : Heap) (locs : List Loc) (ls : Array Slot) (a0 : Nat) (x1 : Int32) (x3 : Int32) (x4 : Int32) (σ : za_h), za_I D ca n0 s σ H locs → lv_has ls 7 [(0, .ref a0), (1, .int x1), (3, .int x3), (4, .int x4)] → zf_Quorums_isGivenTo_5 n a0 x1 x3 x4 σ = some (r, σ') → W p l e ({ frames := 2, cells := 0, slots := 0, locals := 42 }) s m ([.ref ay0, .int xy1, .int xy2] : List Value).toArray below meth c H locs 0 0 (MQ below (za_Qi D ca n0 r σ') ([.ref ay0, .int xy1, .int xy2] : List Value).toArray s 0 0 (za_A n0)) (F0 m 5 ls []) := by
    intro n
    induction n with
    | zero => intro H locs ls a0 x1 x3 x4 σ hI hl h; rw [zf_Quorums_isGivenTo_5] at h; cases h
    | succ n ih =>
      intro H locs ls a0 x1 x3 x4 σ hI hl h
      rw [zf_Quorums_isGivenTo_5] at h
      refine lv_iload hx hb zd_Quorums_isGivenTo_5 (lv_at hl 3 rfl) ?_
      refine lv_iconst (v := nI 5) hx hb zd_Quorums_isGivenTo_7 (by decide) ?_
      refine lv_icmp_ge hx hb (tgt := 83) zd_Quorums_isGivenTo_8 (by decide) (fun c1 => ?_) (fun c1 => ?_)
      · replace h := zb_t c1 h
        exact B83 _ _ ls σ hI (lv_sub hl [] rfl) h
      · replace h := zb_f c1 h
        refine lv_iload_n hx hb zd_Quorums_isGivenTo_11 rfl (lv_at hl 2 rfl) ?_
        refine lv_iload_n hx hb zd_Quorums_isGivenTo_12 rfl (lv_at hl 1 rfl) ?_
        obtain ⟨⟨r2, σ3⟩, e4, h⟩ := zb_o h
        refine za_calli (za_runS hx hb hml hown hts hK hI (zm_TL_has e4) zj_Quorums_18 ⟨rfl, rfl⟩ ⟨Nat.le_of_ble_eq_true rfl, Nat.le_of_ble_eq_true rfl⟩ rfl hl.1 rfl (Nat.le_of_ble_eq_true rfl) zd_Quorums_isGivenTo_13 ⟨Nat.le_of_ble_eq_true rfl, Nat.le_of_ble_eq_true rfl⟩) hI (fun H locs hI => ?_)
        refine lv_if_eq hx hb (tgt := 83) zd_Quorums_isGivenTo_16 (by decide) (fun c5 => ?_) (fun c5 => ?_)
        · replace h := zb_t c5 h
          exact B83 _ _ ls σ3 hI (lv_sub hl [] rfl) h
        · replace h := zb_f c5 h
          refine lv_iload_n hx hb zd_Quorums_isGivenTo_19 rfl (lv_at hl 2 rfl) ?_
          refine lv_istore (lv' := [(5, .int x3), (0, .ref a0), (1, .int x1), (3, .int x3), (4, .int x4)]) hx hb zd_Quorums_isGivenTo_20 hl (Nat.le_of_ble_eq_true rfl) rfl (fun ls hl => ?_)
          refine lv_iconst (v := nI 0) hx hb zd_Quorums_isGivenTo_22 (by decide) ?_
          refine lv_istore (lv' := [(6, .int (nI 0)), (5, .int x3), (0, .ref a0), (1, .int x1), (3, .int x3), (4, .int x4)]) hx hb zd_Quorums_isGivenTo_23 hl (Nat.le_of_ble_eq_true rfl) rfl (fun ls hl => ?_)
          exact B25 _ ih 6 _ _ ls a0 x1 x3 x4 x3 (nI 0) σ3 hI (lv_sub hl [2, 3, 4, 5, 1, 0] rfl) h
  unfold zf_Quorums_isGivenTo at h
  refine lv_iload_n hx hb zd_Quorums_isGivenTo_0 rfl (lv_at hl 2 rfl) ?_
  refine lv_istore_n (lv' := [(3, .int xy2), (0, .ref ay0), (1, .int xy1), (2, .int xy2)]) hx hb zd_Quorums_isGivenTo_1 rfl hl (Nat.le_of_ble_eq_true rfl) rfl (fun ls hl => ?_)
  refine lv_iconst (v := nI 0) hx hb zd_Quorums_isGivenTo_2 (by decide) ?_
  refine lv_istore (lv' := [(4, .int (nI 0)), (3, .int xy2), (0, .ref ay0), (1, .int xy1), (2, .int xy2)]) hx hb zd_Quorums_isGivenTo_3 hl (Nat.le_of_ble_eq_true rfl) rfl (fun ls hl => ?_)
  exact B5 6 _ _ ls ay0 xy1 xy2 (nI 0) σ hI (lv_sub hl [2, 3, 1, 0] rfl) h

def zf_Trust_isBlockedBy_18 (xs0 : Int32) (σ : za_h) : Option (Int32 × za_h) :=
  if xs0 = 0 ∨ xs0 = 1 then some (xs0, σ) else none

def zf_Trust_isBlockedBy (ay0 : Nat) (xy1 : Int32) (σ : za_h) : Option (Int32 × za_h) :=
  (zg_c σ ay0 9).bind fun _ =>
  (zf_Trust_isSatisfiedBy ay0 ((nI 31) &&& (xy1 ^^^ (-1))) σ).bind fun (r2, σ3) =>
  if r2 = 0 then
  (zf_Trust_isBlockedBy_18 (nI 1) σ3)
  else
  (zf_Trust_isBlockedBy_18 (nI 0) σ3)
set_option maxRecDepth 100000 in
set_option maxHeartbeats 4000000 in
theorem zm_Trust_isBlockedBy {l : Launch} {D : va_G} {ca : Nat → ClassId} {n0 : Nat} {ay0 : Nat} {xy1 : Int32} {σ σ' : za_h} {r : Int32} (h : zf_Trust_isBlockedBy ay0 xy1 σ = some (r, σ')) : Met l zy_Trust_isBlockedBy (za_wy zy_Trust_isBlockedBy zc_Trust_isBlockedBy 2 (some .boolean)) { frames := 2, cells := 0, slots := 0, locals := 42 } (za_Pc D ca n0 [.ref ay0, .int xy1] σ) (za_Qi D ca n0 r σ') 0 0 (za_A n0) := by
  refine za_met (by decide) (Nat.le_of_ble_eq_true rfl) ?_
  intro p e s m below meth c ls hx hb hml hr hlk hts hown hnm hK hI hl
  replace hown : s.vm.findClass zR_Trust = some m.cls := hown
  replace hl : lv_has ls 2 [(0, .ref ay0), (1, .int xy1)] := hl
  have B18 : ∀ (H : Heap) (locs : List Loc) (ls : Array Slot) (xs0 : Int32) (σ : za_h), za_I D ca n0 s σ H locs → lv_has ls 2 [] → zf_Trust_isBlockedBy_18 xs0 σ = some (r, σ') → W p l e ({ frames := 2, cells := 0, slots := 0, locals := 42 }) s m ([.ref ay0, .int xy1] : List Value).toArray below meth c H locs 0 0 (MQ below (za_Qi D ca n0 r σ') ([.ref ay0, .int xy1] : List Value).toArray s 0 0 (za_A n0)) (F0 m 18 ls [.int xs0]) := by
    intro H locs ls xs0 σ hI hl h
    unfold zf_Trust_isBlockedBy_18 at h
    obtain ⟨g1, h⟩ := zb_g h
    exact za_zret hx hb hr hlk hI g1 h (Nat.le_of_ble_eq_true rfl) (Nat.le_of_ble_eq_true rfl) zd_Trust_isBlockedBy_18
  unfold zf_Trust_isBlockedBy at h
  refine lv_aload_n hx hb zd_Trust_isBlockedBy_0 rfl (lv_at hl 0 rfl) ?_
  refine lv_bipush (v := nI 31) hx hb zd_Trust_isBlockedBy_1 (by decide) ?_
  refine lv_iload_n hx hb zd_Trust_isBlockedBy_3 rfl (lv_at hl 1 rfl) ?_
  refine lv_iconst (v := -1) hx hb zd_Trust_isBlockedBy_4 (by decide) ?_
  refine lv_ixor hx hb zd_Trust_isBlockedBy_5 ?_
  refine lv_iand hx hb zd_Trust_isBlockedBy_6 ?_
  obtain ⟨_, g1, h⟩ := zb_o h
  obtain ⟨⟨r2, σ3⟩, e4, h⟩ := zb_o h
  refine za_calli (za_runV hx hb hml hown hts hK hI g1 (zm_Trust_isSatisfiedBy e4) zj_Trust_30 ⟨rfl, rfl⟩ ⟨Nat.le_of_ble_eq_true rfl, Nat.le_of_ble_eq_true rfl⟩ rfl hl.1 rfl (Nat.le_of_ble_eq_true rfl) zd_Trust_isBlockedBy_7 ⟨Nat.le_of_ble_eq_true rfl, Nat.le_of_ble_eq_true rfl⟩) hI (fun H locs hI => ?_)
  refine lv_if_ne hx hb (tgt := 17) zd_Trust_isBlockedBy_10 (by decide) (fun c5 => ?_) (fun c5 => ?_)
  · replace h := zb_f c5 h
    refine lv_iconst (v := nI 0) hx hb zd_Trust_isBlockedBy_17 (by decide) ?_
    exact B18 _ _ ls (nI 0) σ3 hI (lv_sub hl [] rfl) h
  · replace h := zb_t c5 h
    refine lv_iconst (v := nI 1) hx hb zd_Trust_isBlockedBy_13 (by decide) ?_
    refine lv_goto hx hb (tgt := 18) zd_Trust_isBlockedBy_14 (by decide) ?_
    exact B18 _ _ ls (nI 1) σ3 hI (lv_sub hl [] rfl) h

def zf_Statements_acceptIfMay_124 (x2 : Int32) (σ : za_h) : Option (Int32 × za_h) :=
  if x2 = 0 ∨ x2 = 1 then some (x2, σ) else none

def zf_Statements_acceptIfMay_89 (a0 : Nat) (x1 : Int32) (xs0 : Int32) (σ : za_h) : Option (Int32 × za_h) :=
  if xs0 = 0 then
  (zf_Statements_acceptIfMay_124 xs0 σ)
  else
  ((zg_r σ a0 7 5).bind fun b3 =>
  (zg_i σ a0 7 0).bind fun v5 =>
  (za_ld σ b3 0 v5).bind fun v6 =>
  (za_st σ b3 0 v5 (v6 ||| ((nI 1) <<< (x1 &&& 31)))).bind fun σ8 =>
  (zg_r σ8 a0 7 4).bind fun b11 =>
  (zg_i σ8 a0 7 0).bind fun v13 =>
  (za_ld σ8 b11 0 v13).bind fun v14 =>
  (za_st σ8 b11 0 v13 (v14 ||| ((nI 1) <<< (x1 &&& 31)))).bind fun σ16 =>
  zf_Statements_acceptIfMay_124 xs0 σ16)

def zf_Statements_acceptIfMay_84 (a0 : Nat) (x1 : Int32) (σ : za_h) : Option (Int32 × za_h) :=
  zf_Statements_acceptIfMay_89 a0 x1 (nI 1) σ

def zf_Statements_acceptIfMay_57 (a0 : Nat) (x1 : Int32) (σ : za_h) : Option (Int32 × za_h) :=
  (zg_r σ a0 7 1).bind fun b2 =>
  (zg_r σ b2 6 0).bind fun b4 =>
  (zg_i σ a0 7 0).bind fun v6 =>
  (za_ln σ b4 7 v6).bind fun b7 =>
  (zg_r σ a0 7 5).bind fun b10 =>
  (zg_c σ a0 7).bind fun _ =>
  (zf_Statements_nodesWith a0 b10 x1 σ).bind fun (r12, σ13) =>
  (zg_c σ13 b7 9).bind fun _ =>
  (zf_Trust_isBlockedBy b7 r12 σ13).bind fun (r16, σ17) =>
  if r16 = 0 then
  (zf_Statements_acceptIfMay_89 a0 x1 (nI 0) σ17)
  else
  (zf_Statements_acceptIfMay_84 a0 x1 σ17)

def zf_Statements_acceptIfMay (ay0 : Nat) (xy1 : Int32) (σ : za_h) : Option (Int32 × za_h) :=
  (zg_r σ ay0 7 5).bind fun b2 =>
  (zg_i σ ay0 7 0).bind fun v4 =>
  (za_ld σ b2 0 v4).bind fun v5 =>
  (zf_TL_has v5 xy1 σ).bind fun (r7, σ8) =>
  if r7 = 0 then
  ((zg_r σ8 ay0 7 4).bind fun b12 =>
  (zg_i σ8 ay0 7 0).bind fun v14 =>
  (za_ld σ8 b12 0 v14).bind fun v15 =>
  (zf_TL_has v15 xy1 σ8).bind fun (r17, σ18) =>
  if r17 = 0 then
  (zf_Statements_acceptIfMay_57 ay0 xy1 σ18)
  else
  ((zg_r σ18 ay0 7 1).bind fun b22 =>
  (zg_i σ18 ay0 7 0).bind fun v24 =>
  (zg_r σ18 ay0 7 4).bind fun b26 =>
  (zg_c σ18 ay0 7).bind fun _ =>
  (zf_Statements_nodesWith ay0 b26 xy1 σ18).bind fun (r28, σ29) =>
  (zg_c σ29 b22 6).bind fun _ =>
  (zf_Quorums_isGivenTo b22 v24 r28 σ29).bind fun (r32, σ33) =>
  if r32 = 0 then
  (zf_Statements_acceptIfMay_57 ay0 xy1 σ33)
  else
  (zf_Statements_acceptIfMay_84 ay0 xy1 σ33)))
  else
  (some ((nI 0), σ8))
set_option maxRecDepth 100000 in
set_option maxHeartbeats 4000000 in
theorem zm_Statements_acceptIfMay {l : Launch} {D : va_G} {ca : Nat → ClassId} {n0 : Nat} {ay0 : Nat} {xy1 : Int32} {σ σ' : za_h} {r : Int32} (h : zf_Statements_acceptIfMay ay0 xy1 σ = some (r, σ')) : Met l zy_Statements_acceptIfMay (za_wy zy_Statements_acceptIfMay zc_Statements_acceptIfMay 3 (some .boolean)) { frames := 3, cells := 0, slots := 0, locals := 68 } (za_Pc D ca n0 [.ref ay0, .int xy1] σ) (za_Qi D ca n0 r σ') 0 0 (za_A n0) := by
  refine za_met (by decide) (Nat.le_of_ble_eq_true rfl) ?_
  intro p e s m below meth c ls hx hb hml hr hlk hts hown hnm hK hI hl
  replace hown : s.vm.findClass zR_Statements = some m.cls := hown
  replace hl : lv_has ls 3 [(0, .ref ay0), (1, .int xy1)] := hl
  have B124 : ∀ (H : Heap) (locs : List Loc) (ls : Array Slot) (x2 : Int32) (σ : za_h), za_I D ca n0 s σ H locs → lv_has ls 3 [(2, .int x2)] → zf_Statements_acceptIfMay_124 x2 σ = some (r, σ') → W p l e ({ frames := 3, cells := 0, slots := 0, locals := 68 }) s m ([.ref ay0, .int xy1] : List Value).toArray below meth c H locs 0 0 (MQ below (za_Qi D ca n0 r σ') ([.ref ay0, .int xy1] : List Value).toArray s 0 0 (za_A n0)) (F0 m 124 ls []) := by
    intro H locs ls x2 σ hI hl h
    unfold zf_Statements_acceptIfMay_124 at h
    refine lv_iload_n hx hb zd_Statements_acceptIfMay_124 rfl (lv_at hl 0 rfl) ?_
    obtain ⟨g1, h⟩ := zb_g h
    exact za_zret hx hb hr hlk hI g1 h (Nat.le_of_ble_eq_true rfl) (Nat.le_of_ble_eq_true rfl) zd_Statements_acceptIfMay_125
  have B89 : ∀ (H : Heap) (locs : List Loc) (ls : Array Slot) (a0 : Nat) (x1 : Int32) (xs0 : Int32) (σ : za_h), za_I D ca n0 s σ H locs → lv_has ls 3 [(0, .ref a0), (1, .int x1)] → zf_Statements_acceptIfMay_89 a0 x1 xs0 σ = some (r, σ') → W p l e ({ frames := 3, cells := 0, slots := 0, locals := 68 }) s m ([.ref ay0, .int xy1] : List Value).toArray below meth c H locs 0 0 (MQ below (za_Qi D ca n0 r σ') ([.ref ay0, .int xy1] : List Value).toArray s 0 0 (za_A n0)) (F0 m 89 ls [.int xs0]) := by
    intro H locs ls a0 x1 xs0 σ hI hl h
    unfold zf_Statements_acceptIfMay_89 at h
    refine lv_istore_n (lv' := [(2, .int xs0), (0, .ref a0), (1, .int x1)]) hx hb zd_Statements_acceptIfMay_89 rfl hl (Nat.le_of_ble_eq_true rfl) rfl (fun ls hl => ?_)
    refine lv_iload_n hx hb zd_Statements_acceptIfMay_90 rfl (lv_at hl 0 rfl) ?_
    refine lv_if_eq hx hb (tgt := 124) zd_Statements_acceptIfMay_91 (by decide) (fun c1 => ?_) (fun c1 => ?_)
    · replace h := zb_t c1 h
      exact B124 _ _ ls xs0 σ hI (lv_sub hl [0] rfl) h
    · replace h := zb_f c1 h
      refine lv_aload_n hx hb zd_Statements_acceptIfMay_94 rfl (lv_at hl 1 rfl) ?_
      obtain ⟨b3, e2, h⟩ := zb_o h
      refine za_getr hx hb hts hown hK hI zl_Statements_23 e2 zd_Statements_acceptIfMay_95 ?_
      refine lv_aload_n hx hb zd_Statements_acceptIfMay_98 rfl (lv_at hl 1 rfl) ?_
      obtain ⟨v5, e4, h⟩ := zb_o h
      refine za_geti hx hb hts hown hK hI zl_Statements_9 e4 zd_Statements_acceptIfMay_99 ?_
      refine lv_dup2_11 hx hb zd_Statements_acceptIfMay_102 rfl rfl ?_
      obtain ⟨v6, e7, h⟩ := zb_o h
      refine za_iald hx hb hK hI e7 zd_Statements_acceptIfMay_103 ?_
      refine lv_iconst (v := nI 1) hx hb zd_Statements_acceptIfMay_104 (by decide) ?_
      refine lv_iload_n hx hb zd_Statements_acceptIfMay_105 rfl (lv_at hl 2 rfl) ?_
      refine lv_ishl hx hb zd_Statements_acceptIfMay_106 ?_
      refine lv_ior hx hb zd_Statements_acceptIfMay_107 ?_
      obtain ⟨σ8, e9, h⟩ := zb_o h
      refine za_iast hx hb hK hI e9 zd_Statements_acceptIfMay_108 (fun H locs hI => ?_)
      refine lv_aload_n hx hb zd_Statements_acceptIfMay_109 rfl (lv_at hl 1 rfl) ?_
      obtain ⟨b11, e10, h⟩ := zb_o h
      refine za_getr hx hb hts hown hK hI zl_Statements_19 e10 zd_Statements_acceptIfMay_110 ?_
      refine lv_aload_n hx hb zd_Statements_acceptIfMay_113 rfl (lv_at hl 1 rfl) ?_
      obtain ⟨v13, e12, h⟩ := zb_o h
      refine za_geti hx hb hts hown hK hI zl_Statements_9 e12 zd_Statements_acceptIfMay_114 ?_
      refine lv_dup2_11 hx hb zd_Statements_acceptIfMay_117 rfl rfl ?_
      obtain ⟨v14, e15, h⟩ := zb_o h
      refine za_iald hx hb hK hI e15 zd_Statements_acceptIfMay_118 ?_
      refine lv_iconst (v := nI 1) hx hb zd_Statements_acceptIfMay_119 (by decide) ?_
      refine lv_iload_n hx hb zd_Statements_acceptIfMay_120 rfl (lv_at hl 2 rfl) ?_
      refine lv_ishl hx hb zd_Statements_acceptIfMay_121 ?_
      refine lv_ior hx hb zd_Statements_acceptIfMay_122 ?_
      obtain ⟨σ16, e17, h⟩ := zb_o h
      refine za_iast hx hb hK hI e17 zd_Statements_acceptIfMay_123 (fun H locs hI => ?_)
      exact B124 _ _ ls xs0 σ16 hI (lv_sub hl [0] rfl) h
  have B84 : ∀ (H : Heap) (locs : List Loc) (ls : Array Slot) (a0 : Nat) (x1 : Int32) (σ : za_h), za_I D ca n0 s σ H locs → lv_has ls 3 [(0, .ref a0), (1, .int x1)] → zf_Statements_acceptIfMay_84 a0 x1 σ = some (r, σ') → W p l e ({ frames := 3, cells := 0, slots := 0, locals := 68 }) s m ([.ref ay0, .int xy1] : List Value).toArray below meth c H locs 0 0 (MQ below (za_Qi D ca n0 r σ') ([.ref ay0, .int xy1] : List Value).toArray s 0 0 (za_A n0)) (F0 m 84 ls []) := by
    intro H locs ls a0 x1 σ hI hl h
    unfold zf_Statements_acceptIfMay_84 at h
    refine lv_iconst (v := nI 1) hx hb zd_Statements_acceptIfMay_84 (by decide) ?_
    refine lv_goto hx hb (tgt := 89) zd_Statements_acceptIfMay_85 (by decide) ?_
    exact B89 _ _ ls a0 x1 (nI 1) σ hI (lv_sub hl [0, 1] rfl) h
  have B57 : ∀ (H : Heap) (locs : List Loc) (ls : Array Slot) (a0 : Nat) (x1 : Int32) (σ : za_h), za_I D ca n0 s σ H locs → lv_has ls 3 [(0, .ref a0), (1, .int x1)] → zf_Statements_acceptIfMay_57 a0 x1 σ = some (r, σ') → W p l e ({ frames := 3, cells := 0, slots := 0, locals := 68 }) s m ([.ref ay0, .int xy1] : List Value).toArray below meth c H locs 0 0 (MQ below (za_Qi D ca n0 r σ') ([.ref ay0, .int xy1] : List Value).toArray s 0 0 (za_A n0)) (F0 m 57 ls []) := by
    intro H locs ls a0 x1 σ hI hl h
    unfold zf_Statements_acceptIfMay_57 at h
    refine lv_aload_n hx hb zd_Statements_acceptIfMay_57 rfl (lv_at hl 0 rfl) ?_
    obtain ⟨b2, e1, h⟩ := zb_o h
    refine za_getr hx hb hts hown hK hI zl_Statements_15 e1 zd_Statements_acceptIfMay_58 ?_
    obtain ⟨b4, e3, h⟩ := zb_o h
    refine za_getr hx hb hts hown hK hI zl_Statements_42 e3 zd_Statements_acceptIfMay_61 ?_
    refine lv_aload_n hx hb zd_Statements_acceptIfMay_64 rfl (lv_at hl 0 rfl) ?_
    obtain ⟨v6, e5, h⟩ := zb_o h
    refine za_geti hx hb hts hown hK hI zl_Statements_9 e5 zd_Statements_acceptIfMay_65 ?_
    obtain ⟨b7, e8, h⟩ := zb_o h
    refine za_aaln hx hb hK hI (t := 7) rfl e8 zd_Statements_acceptIfMay_68 ?_
    refine lv_aload_n hx hb zd_Statements_acceptIfMay_69 rfl (lv_at hl 0 rfl) ?_
    refine lv_aload_n hx hb zd_Statements_acceptIfMay_70 rfl (lv_at hl 0 rfl) ?_
    obtain ⟨b10, e9, h⟩ := zb_o h
    refine za_getr hx hb hts hown hK hI zl_Statements_23 e9 zd_Statements_acceptIfMay_71 ?_
    refine lv_iload_n hx hb zd_Statements_acceptIfMay_74 rfl (lv_at hl 1 rfl) ?_
    obtain ⟨_, g11, h⟩ := zb_o h
    obtain ⟨⟨r12, σ13⟩, e14, h⟩ := zb_o h
    refine za_calli (za_runV hx hb hml hown hts hK hI g11 (zm_Statements_nodesWith e14) zj_Statements_33 ⟨rfl, rfl⟩ ⟨Nat.le_of_ble_eq_true rfl, Nat.le_of_ble_eq_true rfl⟩ rfl hl.1 rfl (Nat.le_of_ble_eq_true rfl) zd_Statements_acceptIfMay_75 ⟨Nat.le_of_ble_eq_true rfl, Nat.le_of_ble_eq_true rfl⟩) hI (fun H locs hI => ?_)
    obtain ⟨_, g15, h⟩ := zb_o h
    obtain ⟨⟨r16, σ17⟩, e18, h⟩ := zb_o h
    refine za_calli (za_runV hx hb hml hown hts hK hI g15 (zm_Trust_isBlockedBy e18) zj_Statements_46 ⟨rfl, rfl⟩ ⟨Nat.le_of_ble_eq_true rfl, Nat.le_of_ble_eq_true rfl⟩ rfl hl.1 rfl (Nat.le_of_ble_eq_true rfl) zd_Statements_acceptIfMay_78 ⟨Nat.le_of_ble_eq_true rfl, Nat.le_of_ble_eq_true rfl⟩) hI (fun H locs hI => ?_)
    refine lv_if_eq hx hb (tgt := 88) zd_Statements_acceptIfMay_81 (by decide) (fun c19 => ?_) (fun c19 => ?_)
    · replace h := zb_t c19 h
      refine lv_iconst (v := nI 0) hx hb zd_Statements_acceptIfMay_88 (by decide) ?_
      exact B89 _ _ ls a0 x1 (nI 0) σ17 hI (lv_sub hl [0, 1] rfl) h
    · replace h := zb_f c19 h
      exact B84 _ _ ls a0 x1 σ17 hI (lv_sub hl [0, 1] rfl) h
  unfold zf_Statements_acceptIfMay at h
  refine lv_aload_n hx hb zd_Statements_acceptIfMay_0 rfl (lv_at hl 0 rfl) ?_
  obtain ⟨b2, e1, h⟩ := zb_o h
  refine za_getr hx hb hts hown hK hI zl_Statements_23 e1 zd_Statements_acceptIfMay_1 ?_
  refine lv_aload_n hx hb zd_Statements_acceptIfMay_4 rfl (lv_at hl 0 rfl) ?_
  obtain ⟨v4, e3, h⟩ := zb_o h
  refine za_geti hx hb hts hown hK hI zl_Statements_9 e3 zd_Statements_acceptIfMay_5 ?_
  obtain ⟨v5, e6, h⟩ := zb_o h
  refine za_iald hx hb hK hI e6 zd_Statements_acceptIfMay_8 ?_
  refine lv_iload_n hx hb zd_Statements_acceptIfMay_9 rfl (lv_at hl 1 rfl) ?_
  obtain ⟨⟨r7, σ8⟩, e9, h⟩ := zb_o h
  refine za_calli (za_runS hx hb hml hown hts hK hI (zm_TL_has e9) zj_Statements_29 ⟨rfl, rfl⟩ ⟨Nat.le_of_ble_eq_true rfl, Nat.le_of_ble_eq_true rfl⟩ rfl hl.1 rfl (Nat.le_of_ble_eq_true rfl) zd_Statements_acceptIfMay_10 ⟨Nat.le_of_ble_eq_true rfl, Nat.le_of_ble_eq_true rfl⟩) hI (fun H locs hI => ?_)
  refine lv_if_eq hx hb (tgt := 18) zd_Statements_acceptIfMay_13 (by decide) (fun c10 => ?_) (fun c10 => ?_)
  · replace h := zb_t c10 h
    refine lv_aload_n hx hb zd_Statements_acceptIfMay_18 rfl (lv_at hl 0 rfl) ?_
    obtain ⟨b12, e11, h⟩ := zb_o h
    refine za_getr hx hb hts hown hK hI zl_Statements_19 e11 zd_Statements_acceptIfMay_19 ?_
    refine lv_aload_n hx hb zd_Statements_acceptIfMay_22 rfl (lv_at hl 0 rfl) ?_
    obtain ⟨v14, e13, h⟩ := zb_o h
    refine za_geti hx hb hts hown hK hI zl_Statements_9 e13 zd_Statements_acceptIfMay_23 ?_
    obtain ⟨v15, e16, h⟩ := zb_o h
    refine za_iald hx hb hK hI e16 zd_Statements_acceptIfMay_26 ?_
    refine lv_iload_n hx hb zd_Statements_acceptIfMay_27 rfl (lv_at hl 1 rfl) ?_
    obtain ⟨⟨r17, σ18⟩, e19, h⟩ := zb_o h
    refine za_calli (za_runS hx hb hml hown hts hK hI (zm_TL_has e19) zj_Statements_29 ⟨rfl, rfl⟩ ⟨Nat.le_of_ble_eq_true rfl, Nat.le_of_ble_eq_true rfl⟩ rfl hl.1 rfl (Nat.le_of_ble_eq_true rfl) zd_Statements_acceptIfMay_28 ⟨Nat.le_of_ble_eq_true rfl, Nat.le_of_ble_eq_true rfl⟩) hI (fun H locs hI => ?_)
    refine lv_if_eq hx hb (tgt := 57) zd_Statements_acceptIfMay_31 (by decide) (fun c20 => ?_) (fun c20 => ?_)
    · replace h := zb_t c20 h
      exact B57 _ _ ls ay0 xy1 σ18 hI (lv_sub hl [0, 1] rfl) h
    · replace h := zb_f c20 h
      refine lv_aload_n hx hb zd_Statements_acceptIfMay_34 rfl (lv_at hl 0 rfl) ?_
      obtain ⟨b22, e21, h⟩ := zb_o h
      refine za_getr hx hb hts hown hK hI zl_Statements_15 e21 zd_Statements_acceptIfMay_35 ?_
      refine lv_aload_n hx hb zd_Statements_acceptIfMay_38 rfl (lv_at hl 0 rfl) ?_
      obtain ⟨v24, e23, h⟩ := zb_o h
      refine za_geti hx hb hts hown hK hI zl_Statements_9 e23 zd_Statements_acceptIfMay_39 ?_
      refine lv_aload_n hx hb zd_Statements_acceptIfMay_42 rfl (lv_at hl 0 rfl) ?_
      refine lv_aload_n hx hb zd_Statements_acceptIfMay_43 rfl (lv_at hl 0 rfl) ?_
      obtain ⟨b26, e25, h⟩ := zb_o h
      refine za_getr hx hb hts hown hK hI zl_Statements_19 e25 zd_Statements_acceptIfMay_44 ?_
      refine lv_iload_n hx hb zd_Statements_acceptIfMay_47 rfl (lv_at hl 1 rfl) ?_
      obtain ⟨_, g27, h⟩ := zb_o h
      obtain ⟨⟨r28, σ29⟩, e30, h⟩ := zb_o h
      refine za_calli (za_runV hx hb hml hown hts hK hI g27 (zm_Statements_nodesWith e30) zj_Statements_33 ⟨rfl, rfl⟩ ⟨Nat.le_of_ble_eq_true rfl, Nat.le_of_ble_eq_true rfl⟩ rfl hl.1 rfl (Nat.le_of_ble_eq_true rfl) zd_Statements_acceptIfMay_48 ⟨Nat.le_of_ble_eq_true rfl, Nat.le_of_ble_eq_true rfl⟩) hI (fun H locs hI => ?_)
      obtain ⟨_, g31, h⟩ := zb_o h
      obtain ⟨⟨r32, σ33⟩, e34, h⟩ := zb_o h
      refine za_calli (za_runV hx hb hml hown hts hK hI g31 (zm_Quorums_isGivenTo e34) zj_Statements_37 ⟨rfl, rfl⟩ ⟨Nat.le_of_ble_eq_true rfl, Nat.le_of_ble_eq_true rfl⟩ rfl hl.1 rfl (Nat.le_of_ble_eq_true rfl) zd_Statements_acceptIfMay_51 ⟨Nat.le_of_ble_eq_true rfl, Nat.le_of_ble_eq_true rfl⟩) hI (fun H locs hI => ?_)
      refine lv_if_ne hx hb (tgt := 84) zd_Statements_acceptIfMay_54 (by decide) (fun c35 => ?_) (fun c35 => ?_)
      · replace h := zb_f c35 h
        exact B84 _ _ ls ay0 xy1 σ33 hI (lv_sub hl [0, 1] rfl) h
      · replace h := zb_t c35 h
        exact B57 _ _ ls ay0 xy1 σ33 hI (lv_sub hl [0, 1] rfl) h
  · replace h := zb_f c10 h
    refine lv_iconst (v := nI 0) hx hb zd_Statements_acceptIfMay_16 (by decide) ?_
    exact za_zret hx hb hr hlk hI (by decide) h (Nat.le_of_ble_eq_true rfl) (Nat.le_of_ble_eq_true rfl) zd_Statements_acceptIfMay_17

def zf_Statements_confirmIfMay_60  (σ : za_h) : Option (Int32 × za_h) :=
  some ((nI 0), σ)

def zf_Statements_confirmIfMay_32 (a0 : Nat) (x1 : Int32) (xs0 : Int32) (σ : za_h) : Option (Int32 × za_h) :=
  if xs0 = 0 then
  (zf_Statements_confirmIfMay_60 σ)
  else
  ((zg_r σ a0 7 1).bind fun b3 =>
  (zg_i σ a0 7 0).bind fun v5 =>
  (zg_r σ a0 7 5).bind fun b7 =>
  (zg_c σ a0 7).bind fun _ =>
  (zf_Statements_nodesWith a0 b7 x1 σ).bind fun (r9, σ10) =>
  (zg_c σ10 b3 6).bind fun _ =>
  (zf_Quorums_isGivenTo b3 v5 r9 σ10).bind fun (r13, σ14) =>
  if r13 = 0 then
  (zf_Statements_confirmIfMay_60 σ14)
  else
  ((zg_i σ14 a0 7 3).bind fun v18 =>
  (zp_f σ14 a0 7 3 (.int (v18 ||| ((nI 1) <<< (x1 &&& 31))))).bind fun σ20 =>
  some ((nI 1), σ20)))

def zf_Statements_confirmIfMay_31 (a0 : Nat) (x1 : Int32) (σ : za_h) : Option (Int32 × za_h) :=
  zf_Statements_confirmIfMay_32 a0 x1 (nI 0) σ

def zf_Statements_confirmIfMay (ay0 : Nat) (xy1 : Int32) (σ : za_h) : Option (Int32 × za_h) :=
  (zg_r σ ay0 7 5).bind fun b2 =>
  (zg_i σ ay0 7 0).bind fun v4 =>
  (za_ld σ b2 0 v4).bind fun v5 =>
  (zf_TL_has v5 xy1 σ).bind fun (r7, σ8) =>
  if r7 = 0 then
  (zf_Statements_confirmIfMay_31 ay0 xy1 σ8)
  else
  ((zg_i σ8 ay0 7 3).bind fun v12 =>
  (zf_TL_has v12 xy1 σ8).bind fun (r13, σ14) =>
  if r13 = 0 then
  (zf_Statements_confirmIfMay_32 ay0 xy1 (nI 1) σ14)
  else
  (zf_Statements_confirmIfMay_31 ay0 xy1 σ14))
set_option maxRecDepth 100000 in
set_option maxHeartbeats 4000000 in
theorem zm_Statements_confirmIfMay {l : Launch} {D : va_G} {ca : Nat → ClassId} {n0 : Nat} {ay0 : Nat} {xy1 : Int32} {σ σ' : za_h} {r : Int32} (h : zf_Statements_confirmIfMay ay0 xy1 σ = some (r, σ')) : Met l zy_Statements_confirmIfMay (za_wy zy_Statements_confirmIfMay zc_Statements_confirmIfMay 3 (some .boolean)) { frames := 3, cells := 0, slots := 0, locals := 68 } (za_Pc D ca n0 [.ref ay0, .int xy1] σ) (za_Qi D ca n0 r σ') 0 0 (za_A n0) := by
  refine za_met (by decide) (Nat.le_of_ble_eq_true rfl) ?_
  intro p e s m below meth c ls hx hb hml hr hlk hts hown hnm hK hI hl
  replace hown : s.vm.findClass zR_Statements = some m.cls := hown
  replace hl : lv_has ls 3 [(0, .ref ay0), (1, .int xy1)] := hl
  have B60 : ∀ (H : Heap) (locs : List Loc) (ls : Array Slot) (σ : za_h), za_I D ca n0 s σ H locs → lv_has ls 3 [] → zf_Statements_confirmIfMay_60 σ = some (r, σ') → W p l e ({ frames := 3, cells := 0, slots := 0, locals := 68 }) s m ([.ref ay0, .int xy1] : List Value).toArray below meth c H locs 0 0 (MQ below (za_Qi D ca n0 r σ') ([.ref ay0, .int xy1] : List Value).toArray s 0 0 (za_A n0)) (F0 m 60 ls []) := by
    intro H locs ls σ hI hl h
    unfold zf_Statements_confirmIfMay_60 at h
    refine lv_iconst (v := nI 0) hx hb zd_Statements_confirmIfMay_60 (by decide) ?_
    exact za_zret hx hb hr hlk hI (by decide) h (Nat.le_of_ble_eq_true rfl) (Nat.le_of_ble_eq_true rfl) zd_Statements_confirmIfMay_61
  have B32 : ∀ (H : Heap) (locs : List Loc) (ls : Array Slot) (a0 : Nat) (x1 : Int32) (xs0 : Int32) (σ : za_h), za_I D ca n0 s σ H locs → lv_has ls 3 [(0, .ref a0), (1, .int x1)] → zf_Statements_confirmIfMay_32 a0 x1 xs0 σ = some (r, σ') → W p l e ({ frames := 3, cells := 0, slots := 0, locals := 68 }) s m ([.ref ay0, .int xy1] : List Value).toArray below meth c H locs 0 0 (MQ below (za_Qi D ca n0 r σ') ([.ref ay0, .int xy1] : List Value).toArray s 0 0 (za_A n0)) (F0 m 32 ls [.int xs0]) := by
    intro H locs ls a0 x1 xs0 σ hI hl h
    unfold zf_Statements_confirmIfMay_32 at h
    refine lv_istore_n (lv' := [(2, .int xs0), (0, .ref a0), (1, .int x1)]) hx hb zd_Statements_confirmIfMay_32 rfl hl (Nat.le_of_ble_eq_true rfl) rfl (fun ls hl => ?_)
    refine lv_iload_n hx hb zd_Statements_confirmIfMay_33 rfl (lv_at hl 0 rfl) ?_
    refine lv_if_eq hx hb (tgt := 60) zd_Statements_confirmIfMay_34 (by decide) (fun c1 => ?_) (fun c1 => ?_)
    · replace h := zb_t c1 h
      exact B60 _ _ ls σ hI (lv_sub hl [] rfl) h
    · replace h := zb_f c1 h
      refine lv_aload_n hx hb zd_Statements_confirmIfMay_37 rfl (lv_at hl 1 rfl) ?_
      obtain ⟨b3, e2, h⟩ := zb_o h
      refine za_getr hx hb hts hown hK hI zl_Statements_15 e2 zd_Statements_confirmIfMay_38 ?_
      refine lv_aload_n hx hb zd_Statements_confirmIfMay_41 rfl (lv_at hl 1 rfl) ?_
      obtain ⟨v5, e4, h⟩ := zb_o h
      refine za_geti hx hb hts hown hK hI zl_Statements_9 e4 zd_Statements_confirmIfMay_42 ?_
      refine lv_aload_n hx hb zd_Statements_confirmIfMay_45 rfl (lv_at hl 1 rfl) ?_
      refine lv_aload_n hx hb zd_Statements_confirmIfMay_46 rfl (lv_at hl 1 rfl) ?_
      obtain ⟨b7, e6, h⟩ := zb_o h
      refine za_getr hx hb hts hown hK hI zl_Statements_23 e6 zd_Statements_confirmIfMay_47 ?_
      refine lv_iload_n hx hb zd_Statements_confirmIfMay_50 rfl (lv_at hl 2 rfl) ?_
      obtain ⟨_, g8, h⟩ := zb_o h
      obtain ⟨⟨r9, σ10⟩, e11, h⟩ := zb_o h
      refine za_calli (za_runV hx hb hml hown hts hK hI g8 (zm_Statements_nodesWith e11) zj_Statements_33 ⟨rfl, rfl⟩ ⟨Nat.le_of_ble_eq_true rfl, Nat.le_of_ble_eq_true rfl⟩ rfl hl.1 rfl (Nat.le_of_ble_eq_true rfl) zd_Statements_confirmIfMay_51 ⟨Nat.le_of_ble_eq_true rfl, Nat.le_of_ble_eq_true rfl⟩) hI (fun H locs hI => ?_)
      obtain ⟨_, g12, h⟩ := zb_o h
      obtain ⟨⟨r13, σ14⟩, e15, h⟩ := zb_o h
      refine za_calli (za_runV hx hb hml hown hts hK hI g12 (zm_Quorums_isGivenTo e15) zj_Statements_37 ⟨rfl, rfl⟩ ⟨Nat.le_of_ble_eq_true rfl, Nat.le_of_ble_eq_true rfl⟩ rfl hl.1 rfl (Nat.le_of_ble_eq_true rfl) zd_Statements_confirmIfMay_54 ⟨Nat.le_of_ble_eq_true rfl, Nat.le_of_ble_eq_true rfl⟩) hI (fun H locs hI => ?_)
      refine lv_if_ne hx hb (tgt := 62) zd_Statements_confirmIfMay_57 (by decide) (fun c16 => ?_) (fun c16 => ?_)
      · replace h := zb_f c16 h
        refine lv_aload_n hx hb zd_Statements_confirmIfMay_62 rfl (lv_at hl 1 rfl) ?_
        refine lv_dup hx hb zd_Statements_confirmIfMay_63 rfl ?_
        obtain ⟨v18, e17, h⟩ := zb_o h
        refine za_geti hx hb hts hown hK hI zl_Statements_52 e17 zd_Statements_confirmIfMay_64 ?_
        refine lv_iconst (v := nI 1) hx hb zd_Statements_confirmIfMay_67 (by decide) ?_
        refine lv_iload_n hx hb zd_Statements_confirmIfMay_68 rfl (lv_at hl 2 rfl) ?_
        refine lv_ishl hx hb zd_Statements_confirmIfMay_69 ?_
        refine lv_ior hx hb zd_Statements_confirmIfMay_70 ?_
        obtain ⟨σ20, e19, h⟩ := zb_o h
        refine za_put hx hb hts hown hK hI zl_Statements_52 e19 rfl rfl zd_Statements_confirmIfMay_71 (fun H locs hI => ?_)
        refine lv_iconst (v := nI 1) hx hb zd_Statements_confirmIfMay_74 (by decide) ?_
        exact za_zret hx hb hr hlk hI (by decide) h (Nat.le_of_ble_eq_true rfl) (Nat.le_of_ble_eq_true rfl) zd_Statements_confirmIfMay_75
      · replace h := zb_t c16 h
        exact B60 _ _ ls σ14 hI (lv_sub hl [] rfl) h
  have B31 : ∀ (H : Heap) (locs : List Loc) (ls : Array Slot) (a0 : Nat) (x1 : Int32) (σ : za_h), za_I D ca n0 s σ H locs → lv_has ls 3 [(0, .ref a0), (1, .int x1)] → zf_Statements_confirmIfMay_31 a0 x1 σ = some (r, σ') → W p l e ({ frames := 3, cells := 0, slots := 0, locals := 68 }) s m ([.ref ay0, .int xy1] : List Value).toArray below meth c H locs 0 0 (MQ below (za_Qi D ca n0 r σ') ([.ref ay0, .int xy1] : List Value).toArray s 0 0 (za_A n0)) (F0 m 31 ls []) := by
    intro H locs ls a0 x1 σ hI hl h
    unfold zf_Statements_confirmIfMay_31 at h
    refine lv_iconst (v := nI 0) hx hb zd_Statements_confirmIfMay_31 (by decide) ?_
    exact B32 _ _ ls a0 x1 (nI 0) σ hI (lv_sub hl [0, 1] rfl) h
  unfold zf_Statements_confirmIfMay at h
  refine lv_aload_n hx hb zd_Statements_confirmIfMay_0 rfl (lv_at hl 0 rfl) ?_
  obtain ⟨b2, e1, h⟩ := zb_o h
  refine za_getr hx hb hts hown hK hI zl_Statements_23 e1 zd_Statements_confirmIfMay_1 ?_
  refine lv_aload_n hx hb zd_Statements_confirmIfMay_4 rfl (lv_at hl 0 rfl) ?_
  obtain ⟨v4, e3, h⟩ := zb_o h
  refine za_geti hx hb hts hown hK hI zl_Statements_9 e3 zd_Statements_confirmIfMay_5 ?_
  obtain ⟨v5, e6, h⟩ := zb_o h
  refine za_iald hx hb hK hI e6 zd_Statements_confirmIfMay_8 ?_
  refine lv_iload_n hx hb zd_Statements_confirmIfMay_9 rfl (lv_at hl 1 rfl) ?_
  obtain ⟨⟨r7, σ8⟩, e9, h⟩ := zb_o h
  refine za_calli (za_runS hx hb hml hown hts hK hI (zm_TL_has e9) zj_Statements_29 ⟨rfl, rfl⟩ ⟨Nat.le_of_ble_eq_true rfl, Nat.le_of_ble_eq_true rfl⟩ rfl hl.1 rfl (Nat.le_of_ble_eq_true rfl) zd_Statements_confirmIfMay_10 ⟨Nat.le_of_ble_eq_true rfl, Nat.le_of_ble_eq_true rfl⟩) hI (fun H locs hI => ?_)
  refine lv_if_eq hx hb (tgt := 31) zd_Statements_confirmIfMay_13 (by decide) (fun c10 => ?_) (fun c10 => ?_)
  · replace h := zb_t c10 h
    exact B31 _ _ ls ay0 xy1 σ8 hI (lv_sub hl [0, 1] rfl) h
  · replace h := zb_f c10 h
    refine lv_aload_n hx hb zd_Statements_confirmIfMay_16 rfl (lv_at hl 0 rfl) ?_
    obtain ⟨v12, e11, h⟩ := zb_o h
    refine za_geti hx hb hts hown hK hI zl_Statements_52 e11 zd_Statements_confirmIfMay_17 ?_
    refine lv_iload_n hx hb zd_Statements_confirmIfMay_20 rfl (lv_at hl 1 rfl) ?_
    obtain ⟨⟨r13, σ14⟩, e15, h⟩ := zb_o h
    refine za_calli (za_runS hx hb hml hown hts hK hI (zm_TL_has e15) zj_Statements_29 ⟨rfl, rfl⟩ ⟨Nat.le_of_ble_eq_true rfl, Nat.le_of_ble_eq_true rfl⟩ rfl hl.1 rfl (Nat.le_of_ble_eq_true rfl) zd_Statements_confirmIfMay_21 ⟨Nat.le_of_ble_eq_true rfl, Nat.le_of_ble_eq_true rfl⟩) hI (fun H locs hI => ?_)
    refine lv_if_ne hx hb (tgt := 31) zd_Statements_confirmIfMay_24 (by decide) (fun c16 => ?_) (fun c16 => ?_)
    · replace h := zb_f c16 h
      exact B31 _ _ ls ay0 xy1 σ14 hI (lv_sub hl [0, 1] rfl) h
    · replace h := zb_t c16 h
      refine lv_iconst (v := nI 1) hx hb zd_Statements_confirmIfMay_27 (by decide) ?_
      refine lv_goto hx hb (tgt := 32) zd_Statements_confirmIfMay_28 (by decide) ?_
      exact B32 _ _ ls ay0 xy1 (nI 1) σ14 hI (lv_sub hl [0, 1] rfl) h

def zf_TL_valueOf (xy0 : Int32) (σ : za_h) : Option (Int32 × za_h) :=
  some (((xy0 - xy0 / (nI 7) * (nI 7)) + (nI 1)), σ)
set_option maxRecDepth 100000 in
set_option maxHeartbeats 4000000 in
theorem zm_TL_valueOf {l : Launch} {D : va_G} {ca : Nat → ClassId} {n0 : Nat} {xy0 : Int32} {σ σ' : za_h} {r : Int32} (h : zf_TL_valueOf xy0 σ = some (r, σ')) : Met l zy_TL_valueOf (za_wy zy_TL_valueOf zc_TL_valueOf 1 (some .int)) { frames := 0, cells := 0, slots := 0, locals := 0 } (za_Pc D ca n0 [.int xy0] σ) (za_Qi D ca n0 r σ') 0 0 (za_A n0) := by
  refine za_met (by decide) (Nat.le_of_ble_eq_true rfl) ?_
  intro p e s m below meth c ls hx hb hml hr hlk hts hown hnm hK hI hl
  replace hown : s.vm.findClass zR_TL = some m.cls := hown
  replace hl : lv_has ls 1 [(0, .int xy0)] := hl
  unfold zf_TL_valueOf at h
  refine lv_iload_n hx hb zd_TL_valueOf_0 rfl (lv_at hl 0 rfl) ?_
  refine lv_bipush (v := nI 7) hx hb zd_TL_valueOf_1 (by decide) ?_
  refine lv_irem hx hb zd_TL_valueOf_3 (by decide) ?_
  refine lv_iconst (v := nI 1) hx hb zd_TL_valueOf_4 (by decide) ?_
  refine lv_iadd hx hb zd_TL_valueOf_5 ?_
  exact za_iret hx hb hr hlk hI h (Nat.le_of_ble_eq_true rfl) (Nat.le_of_ble_eq_true rfl) zd_TL_valueOf_6

def zf_TL_ballotOf (xy0 : Int32) (xy1 : Int32) (σ : za_h) : Option (Int32 × za_h) :=
  some (((((nI 7) * (xy0 - (nI 1))) + xy1) - (nI 1)), σ)
set_option maxRecDepth 100000 in
set_option maxHeartbeats 4000000 in
theorem zm_TL_ballotOf {l : Launch} {D : va_G} {ca : Nat → ClassId} {n0 : Nat} {xy0 : Int32} {xy1 : Int32} {σ σ' : za_h} {r : Int32} (h : zf_TL_ballotOf xy0 xy1 σ = some (r, σ')) : Met l zy_TL_ballotOf (za_wy zy_TL_ballotOf zc_TL_ballotOf 2 (some .int)) { frames := 0, cells := 0, slots := 0, locals := 0 } (za_Pc D ca n0 [.int xy0, .int xy1] σ) (za_Qi D ca n0 r σ') 0 0 (za_A n0) := by
  refine za_met (by decide) (Nat.le_of_ble_eq_true rfl) ?_
  intro p e s m below meth c ls hx hb hml hr hlk hts hown hnm hK hI hl
  replace hown : s.vm.findClass zR_TL = some m.cls := hown
  replace hl : lv_has ls 2 [(0, .int xy0), (1, .int xy1)] := hl
  unfold zf_TL_ballotOf at h
  refine lv_bipush (v := nI 7) hx hb zd_TL_ballotOf_0 (by decide) ?_
  refine lv_iload_n hx hb zd_TL_ballotOf_2 rfl (lv_at hl 0 rfl) ?_
  refine lv_iconst (v := nI 1) hx hb zd_TL_ballotOf_3 (by decide) ?_
  refine lv_isub hx hb zd_TL_ballotOf_4 ?_
  refine lv_imul hx hb zd_TL_ballotOf_5 ?_
  refine lv_iload_n hx hb zd_TL_ballotOf_6 rfl (lv_at hl 1 rfl) ?_
  refine lv_iadd hx hb zd_TL_ballotOf_7 ?_
  refine lv_iconst (v := nI 1) hx hb zd_TL_ballotOf_8 (by decide) ?_
  refine lv_isub hx hb zd_TL_ballotOf_9 ?_
  exact za_iret hx hb hr hlk hI h (Nat.le_of_ble_eq_true rfl) (Nat.le_of_ble_eq_true rfl) zd_TL_ballotOf_10

def zf_TL_otherValued (xy0 : Int32) (σ : za_h) : Option (Int32 × za_h) :=
  some (((nI 268435455) &&& (((nI 2113665) <<< ((xy0 - xy0 / (nI 7) * (nI 7)) &&& 31)) ^^^ (-1))), σ)
set_option maxRecDepth 100000 in
set_option maxHeartbeats 4000000 in
theorem zm_TL_otherValued {l : Launch} {D : va_G} {ca : Nat → ClassId} {n0 : Nat} {xy0 : Int32} {σ σ' : za_h} {r : Int32} (h : zf_TL_otherValued xy0 σ = some (r, σ')) : Met l zy_TL_otherValued (za_wy zy_TL_otherValued zc_TL_otherValued 1 (some .int)) { frames := 0, cells := 0, slots := 0, locals := 0 } (za_Pc D ca n0 [.int xy0] σ) (za_Qi D ca n0 r σ') 0 0 (za_A n0) := by
  refine za_met (by decide) (Nat.le_of_ble_eq_true rfl) ?_
  intro p e s m below meth c ls hx hb hml hr hlk hts hown hnm hK hI hl
  replace hown : s.vm.findClass zR_TL = some m.cls := hown
  replace hl : lv_has ls 1 [(0, .int xy0)] := hl
  unfold zf_TL_otherValued at h
  refine lv_ldc (v := nI 268435455) hx hb hown (hts _ zk_367) zd_TL_otherValued_0 ?_
  refine lv_ldc (v := nI 2113665) hx hb hown (hts _ zk_368) zd_TL_otherValued_2 ?_
  refine lv_iload_n hx hb zd_TL_otherValued_4 rfl (lv_at hl 0 rfl) ?_
  refine lv_bipush (v := nI 7) hx hb zd_TL_otherValued_5 (by decide) ?_
  refine lv_irem hx hb zd_TL_otherValued_7 (by decide) ?_
  refine lv_ishl hx hb zd_TL_otherValued_8 ?_
  refine lv_iconst (v := -1) hx hb zd_TL_otherValued_9 (by decide) ?_
  refine lv_ixor hx hb zd_TL_otherValued_10 ?_
  refine lv_iand hx hb zd_TL_otherValued_11 ?_
  exact za_iret hx hb hr hlk hI h (Nat.le_of_ble_eq_true rfl) (Nat.le_of_ble_eq_true rfl) zd_TL_otherValued_12

def zf_TL_abortedBy (xy0 : Int32) (σ : za_h) : Option (Int32 × za_h) :=
  (zf_TL_otherValued xy0 σ).bind fun (r1, σ2) =>
  some ((r1 &&& (((nI 1) <<< (xy0 &&& 31)) - (nI 1))), σ2)
set_option maxRecDepth 100000 in
set_option maxHeartbeats 4000000 in
theorem zm_TL_abortedBy {l : Launch} {D : va_G} {ca : Nat → ClassId} {n0 : Nat} {xy0 : Int32} {σ σ' : za_h} {r : Int32} (h : zf_TL_abortedBy xy0 σ = some (r, σ')) : Met l zy_TL_abortedBy (za_wy zy_TL_abortedBy zc_TL_abortedBy 1 (some .int)) { frames := 1, cells := 0, slots := 0, locals := 20 } (za_Pc D ca n0 [.int xy0] σ) (za_Qi D ca n0 r σ') 0 0 (za_A n0) := by
  refine za_met (by decide) (Nat.le_of_ble_eq_true rfl) ?_
  intro p e s m below meth c ls hx hb hml hr hlk hts hown hnm hK hI hl
  replace hown : s.vm.findClass zR_TL = some m.cls := hown
  replace hl : lv_has ls 1 [(0, .int xy0)] := hl
  unfold zf_TL_abortedBy at h
  refine lv_iload_n hx hb zd_TL_abortedBy_0 rfl (lv_at hl 0 rfl) ?_
  obtain ⟨⟨r1, σ2⟩, e3, h⟩ := zb_o h
  refine za_calli (za_runS hx hb hml hown hts hK hI (zm_TL_otherValued e3) zj_TL_193 ⟨rfl, rfl⟩ ⟨Nat.le_of_ble_eq_true rfl, Nat.le_of_ble_eq_true rfl⟩ rfl hl.1 rfl (Nat.le_of_ble_eq_true rfl) zd_TL_abortedBy_1 ⟨Nat.le_of_ble_eq_true rfl, Nat.le_of_ble_eq_true rfl⟩) hI (fun H locs hI => ?_)
  refine lv_iconst (v := nI 1) hx hb zd_TL_abortedBy_4 (by decide) ?_
  refine lv_iload_n hx hb zd_TL_abortedBy_5 rfl (lv_at hl 0 rfl) ?_
  refine lv_ishl hx hb zd_TL_abortedBy_6 ?_
  refine lv_iconst (v := nI 1) hx hb zd_TL_abortedBy_7 (by decide) ?_
  refine lv_isub hx hb zd_TL_abortedBy_8 ?_
  refine lv_iand hx hb zd_TL_abortedBy_9 ?_
  exact za_iret hx hb hr hlk hI h (Nat.le_of_ble_eq_true rfl) (Nat.le_of_ble_eq_true rfl) zd_TL_abortedBy_10

def zf_TL_abortersOf (xy0 : Int32) (σ : za_h) : Option (Int32 × za_h) :=
  (zf_TL_otherValued xy0 σ).bind fun (r1, σ2) =>
  some ((r1 &&& ((((nI 1) <<< (xy0 &&& 31)) - (nI 1)) ^^^ (-1))), σ2)
set_option maxRecDepth 100000 in
set_option maxHeartbeats 4000000 in
theorem zm_TL_abortersOf {l : Launch} {D : va_G} {ca : Nat → ClassId} {n0 : Nat} {xy0 : Int32} {σ σ' : za_h} {r : Int32} (h : zf_TL_abortersOf xy0 σ = some (r, σ')) : Met l zy_TL_abortersOf (za_wy zy_TL_abortersOf zc_TL_abortersOf 1 (some .int)) { frames := 1, cells := 0, slots := 0, locals := 20 } (za_Pc D ca n0 [.int xy0] σ) (za_Qi D ca n0 r σ') 0 0 (za_A n0) := by
  refine za_met (by decide) (Nat.le_of_ble_eq_true rfl) ?_
  intro p e s m below meth c ls hx hb hml hr hlk hts hown hnm hK hI hl
  replace hown : s.vm.findClass zR_TL = some m.cls := hown
  replace hl : lv_has ls 1 [(0, .int xy0)] := hl
  unfold zf_TL_abortersOf at h
  refine lv_iload_n hx hb zd_TL_abortersOf_0 rfl (lv_at hl 0 rfl) ?_
  obtain ⟨⟨r1, σ2⟩, e3, h⟩ := zb_o h
  refine za_calli (za_runS hx hb hml hown hts hK hI (zm_TL_otherValued e3) zj_TL_193 ⟨rfl, rfl⟩ ⟨Nat.le_of_ble_eq_true rfl, Nat.le_of_ble_eq_true rfl⟩ rfl hl.1 rfl (Nat.le_of_ble_eq_true rfl) zd_TL_abortersOf_1 ⟨Nat.le_of_ble_eq_true rfl, Nat.le_of_ble_eq_true rfl⟩) hI (fun H locs hI => ?_)
  refine lv_iconst (v := nI 1) hx hb zd_TL_abortersOf_4 (by decide) ?_
  refine lv_iload_n hx hb zd_TL_abortersOf_5 rfl (lv_at hl 0 rfl) ?_
  refine lv_ishl hx hb zd_TL_abortersOf_6 ?_
  refine lv_iconst (v := nI 1) hx hb zd_TL_abortersOf_7 (by decide) ?_
  refine lv_isub hx hb zd_TL_abortersOf_8 ?_
  refine lv_iconst (v := -1) hx hb zd_TL_abortersOf_9 (by decide) ?_
  refine lv_ixor hx hb zd_TL_abortersOf_10 ?_
  refine lv_iand hx hb zd_TL_abortersOf_11 ?_
  exact za_iret hx hb hr hlk hI h (Nat.le_of_ble_eq_true rfl) (Nat.le_of_ble_eq_true rfl) zd_TL_abortersOf_12

def zf_Offer_init (ay0 : Nat) (xy1 : Int32) (xy2 : Int32) (xy3 : Int32) (xy4 : Int32) (σ : za_h) : Option (Unit × za_h) :=
  (zp_f σ ay0 5 0 (.int xy1)).bind fun σ2 =>
  (zp_f σ2 ay0 5 1 (.int xy2)).bind fun σ4 =>
  (zp_f σ4 ay0 5 2 (.int xy3)).bind fun σ6 =>
  (zp_f σ6 ay0 5 3 (.int xy4)).bind fun σ8 =>
  some ((), σ8)
set_option maxRecDepth 100000 in
set_option maxHeartbeats 4000000 in
theorem zm_Offer_init {l : Launch} {D : va_G} {ca : Nat → ClassId} {n0 : Nat} {ay0 : Nat} {xy1 : Int32} {xy2 : Int32} {xy3 : Int32} {xy4 : Int32} {σ σ' : za_h} {r : Unit} (h : zf_Offer_init ay0 xy1 xy2 xy3 xy4 σ = some (r, σ')) : Met l zy_Offer_init (za_wy zy_Offer_init zc_Offer_init 5 none) { frames := 1, cells := 0, slots := 0, locals := 20 } (za_Pc D ca n0 [.ref ay0, .int xy1, .int xy2, .int xy3, .int xy4] σ) (za_Qv D ca n0 r σ') 0 0 (za_A n0) := by
  refine za_met (by decide) (Nat.le_of_ble_eq_true rfl) ?_
  intro p e s m below meth c ls hx hb hml hr hlk hts hown hnm hK hI hl
  replace hown : s.vm.findClass zR_Offer = some m.cls := hown
  replace hl : lv_has ls 5 [(0, .ref ay0), (1, .int xy1), (2, .int xy2), (3, .int xy3), (4, .int xy4)] := hl
  unfold zf_Offer_init at h
  refine lv_aload_n hx hb zd_Offer_init_0 rfl (lv_at hl 0 rfl) ?_
  refine W.objInit hx hb hown (hts _ zk_396) (hts _ zk_20) (hts _ zk_21) rfl (by rw [hml]; exact hl.1) rfl zd_Offer_init_1 (Nat.le_of_ble_eq_true rfl) (Nat.le_of_ble_eq_true rfl) ?_
  refine W.eq (g2 := F0 m 4 ls []) rfl ?_
  refine lv_aload_n hx hb zd_Offer_init_4 rfl (lv_at hl 0 rfl) ?_
  refine lv_iload_n hx hb zd_Offer_init_5 rfl (lv_at hl 1 rfl) ?_
  obtain ⟨σ2, e1, h⟩ := zb_o h
  refine za_putF hx hb hts hown hnm hK hI zq_Offer_9 e1 rfl rfl zd_Offer_init_6 (fun H locs hI => ?_)
  refine lv_aload_n hx hb zd_Offer_init_9 rfl (lv_at hl 0 rfl) ?_
  refine lv_iload_n hx hb zd_Offer_init_10 rfl (lv_at hl 2 rfl) ?_
  obtain ⟨σ4, e3, h⟩ := zb_o h
  refine za_putF hx hb hts hown hnm hK hI zq_Offer_15 e3 rfl rfl zd_Offer_init_11 (fun H locs hI => ?_)
  refine lv_aload_n hx hb zd_Offer_init_14 rfl (lv_at hl 0 rfl) ?_
  refine lv_iload_n hx hb zd_Offer_init_15 rfl (lv_at hl 3 rfl) ?_
  obtain ⟨σ6, e5, h⟩ := zb_o h
  refine za_putF hx hb hts hown hnm hK hI zq_Offer_18 e5 rfl rfl zd_Offer_init_16 (fun H locs hI => ?_)
  refine lv_aload_n hx hb zd_Offer_init_19 rfl (lv_at hl 0 rfl) ?_
  refine lv_iload hx hb zd_Offer_init_20 (lv_at hl 4 rfl) ?_
  obtain ⟨σ8, e7, h⟩ := zb_o h
  refine za_put hx hb hts hown hK hI zl_Offer_21 e7 rfl rfl zd_Offer_init_22 (fun H locs hI => ?_)
  exact za_vret hx hb hr hlk hI h (Nat.le_of_ble_eq_true rfl) (Nat.le_of_ble_eq_true rfl) zd_Offer_init_25

def zf_Offer_sells_13 (xs0 : Int32) (σ : za_h) : Option (Int32 × za_h) :=
  if xs0 = 0 ∨ xs0 = 1 then some (xs0, σ) else none

def zf_Offer_sells (ay0 : Nat) (σ : za_h) : Option (Int32 × za_h) :=
  (zg_i σ ay0 5 1).bind fun v2 =>
  if v2 = (nI 1) then
  (zf_Offer_sells_13 (nI 1) σ)
  else
  (zf_Offer_sells_13 (nI 0) σ)
set_option maxRecDepth 100000 in
set_option maxHeartbeats 4000000 in
theorem zm_Offer_sells {l : Launch} {D : va_G} {ca : Nat → ClassId} {n0 : Nat} {ay0 : Nat} {σ σ' : za_h} {r : Int32} (h : zf_Offer_sells ay0 σ = some (r, σ')) : Met l zy_Offer_sells (za_wy zy_Offer_sells zc_Offer_sells 1 (some .boolean)) { frames := 0, cells := 0, slots := 0, locals := 0 } (za_Pc D ca n0 [.ref ay0] σ) (za_Qi D ca n0 r σ') 0 0 (za_A n0) := by
  refine za_met (by decide) (Nat.le_of_ble_eq_true rfl) ?_
  intro p e s m below meth c ls hx hb hml hr hlk hts hown hnm hK hI hl
  replace hown : s.vm.findClass zR_Offer = some m.cls := hown
  replace hl : lv_has ls 1 [(0, .ref ay0)] := hl
  have B13 : ∀ (H : Heap) (locs : List Loc) (ls : Array Slot) (xs0 : Int32) (σ : za_h), za_I D ca n0 s σ H locs → lv_has ls 1 [] → zf_Offer_sells_13 xs0 σ = some (r, σ') → W p l e ({ frames := 0, cells := 0, slots := 0, locals := 0 }) s m ([.ref ay0] : List Value).toArray below meth c H locs 0 0 (MQ below (za_Qi D ca n0 r σ') ([.ref ay0] : List Value).toArray s 0 0 (za_A n0)) (F0 m 13 ls [.int xs0]) := by
    intro H locs ls xs0 σ hI hl h
    unfold zf_Offer_sells_13 at h
    obtain ⟨g1, h⟩ := zb_g h
    exact za_zret hx hb hr hlk hI g1 h (Nat.le_of_ble_eq_true rfl) (Nat.le_of_ble_eq_true rfl) zd_Offer_sells_13
  unfold zf_Offer_sells at h
  refine lv_aload_n hx hb zd_Offer_sells_0 rfl (lv_at hl 0 rfl) ?_
  obtain ⟨v2, e1, h⟩ := zb_o h
  refine za_geti hx hb hts hown hK hI zl_Offer_15 e1 zd_Offer_sells_1 ?_
  refine lv_iconst (v := nI 1) hx hb zd_Offer_sells_4 (by decide) ?_
  refine lv_icmp_ne hx hb (tgt := 12) zd_Offer_sells_5 (by decide) (fun c3 => ?_) (fun c3 => ?_)
  · replace h := zb_f c3 h
    refine lv_iconst (v := nI 0) hx hb zd_Offer_sells_12 (by decide) ?_
    exact B13 _ _ ls (nI 0) σ hI (lv_sub hl [] rfl) h
  · replace h := zb_t c3 h
    refine lv_iconst (v := nI 1) hx hb zd_Offer_sells_8 (by decide) ?_
    refine lv_goto hx hb (tgt := 13) zd_Offer_sells_9 (by decide) ?_
    exact B13 _ _ ls (nI 1) σ hI (lv_sub hl [] rfl) h

def zf_Offer_agreesTo_36 (xs0 : Int32) (σ : za_h) : Option (Int32 × za_h) :=
  if xs0 = 0 ∨ xs0 = 1 then some (xs0, σ) else none

def zf_Offer_agreesTo (ay0 : Nat) (xy1 : Int32) (σ : za_h) : Option (Int32 × za_h) :=
  (zg_c σ ay0 5).bind fun _ =>
  (zf_Offer_sells ay0 σ).bind fun (r2, σ3) =>
  if r2 = 0 then
  ((zg_i σ3 ay0 5 2).bind fun v7 =>
  if v7 < xy1 then
  (zf_Offer_agreesTo_36 (nI 0) σ3)
  else
  (zf_Offer_agreesTo_36 (nI 1) σ3))
  else
  ((zg_i σ3 ay0 5 2).bind fun v10 =>
  if xy1 < v10 then
  (zf_Offer_agreesTo_36 (nI 0) σ3)
  else
  (zf_Offer_agreesTo_36 (nI 1) σ3))
set_option maxRecDepth 100000 in
set_option maxHeartbeats 4000000 in
theorem zm_Offer_agreesTo {l : Launch} {D : va_G} {ca : Nat → ClassId} {n0 : Nat} {ay0 : Nat} {xy1 : Int32} {σ σ' : za_h} {r : Int32} (h : zf_Offer_agreesTo ay0 xy1 σ = some (r, σ')) : Met l zy_Offer_agreesTo (za_wy zy_Offer_agreesTo zc_Offer_agreesTo 2 (some .boolean)) { frames := 1, cells := 0, slots := 0, locals := 20 } (za_Pc D ca n0 [.ref ay0, .int xy1] σ) (za_Qi D ca n0 r σ') 0 0 (za_A n0) := by
  refine za_met (by decide) (Nat.le_of_ble_eq_true rfl) ?_
  intro p e s m below meth c ls hx hb hml hr hlk hts hown hnm hK hI hl
  replace hown : s.vm.findClass zR_Offer = some m.cls := hown
  replace hl : lv_has ls 2 [(0, .ref ay0), (1, .int xy1)] := hl
  have B36 : ∀ (H : Heap) (locs : List Loc) (ls : Array Slot) (xs0 : Int32) (σ : za_h), za_I D ca n0 s σ H locs → lv_has ls 2 [] → zf_Offer_agreesTo_36 xs0 σ = some (r, σ') → W p l e ({ frames := 1, cells := 0, slots := 0, locals := 20 }) s m ([.ref ay0, .int xy1] : List Value).toArray below meth c H locs 0 0 (MQ below (za_Qi D ca n0 r σ') ([.ref ay0, .int xy1] : List Value).toArray s 0 0 (za_A n0)) (F0 m 36 ls [.int xs0]) := by
    intro H locs ls xs0 σ hI hl h
    unfold zf_Offer_agreesTo_36 at h
    obtain ⟨g1, h⟩ := zb_g h
    exact za_zret hx hb hr hlk hI g1 h (Nat.le_of_ble_eq_true rfl) (Nat.le_of_ble_eq_true rfl) zd_Offer_agreesTo_36
  unfold zf_Offer_agreesTo at h
  refine lv_aload_n hx hb zd_Offer_agreesTo_0 rfl (lv_at hl 0 rfl) ?_
  obtain ⟨_, g1, h⟩ := zb_o h
  obtain ⟨⟨r2, σ3⟩, e4, h⟩ := zb_o h
  refine za_calli (za_runV hx hb hml hown hts hK hI g1 (zm_Offer_sells e4) zj_Offer_24 ⟨rfl, rfl⟩ ⟨Nat.le_of_ble_eq_true rfl, Nat.le_of_ble_eq_true rfl⟩ rfl hl.1 rfl (Nat.le_of_ble_eq_true rfl) zd_Offer_agreesTo_1 ⟨Nat.le_of_ble_eq_true rfl, Nat.le_of_ble_eq_true rfl⟩) hI (fun H locs hI => ?_)
  refine lv_if_eq hx hb (tgt := 23) zd_Offer_agreesTo_4 (by decide) (fun c5 => ?_) (fun c5 => ?_)
  · replace h := zb_t c5 h
    refine lv_iload_n hx hb zd_Offer_agreesTo_23 rfl (lv_at hl 1 rfl) ?_
    refine lv_aload_n hx hb zd_Offer_agreesTo_24 rfl (lv_at hl 0 rfl) ?_
    obtain ⟨v7, e6, h⟩ := zb_o h
    refine za_geti hx hb hts hown hK hI zl_Offer_18 e6 zd_Offer_agreesTo_25 ?_
    refine lv_icmp_gt hx hb (tgt := 35) zd_Offer_agreesTo_28 (by decide) (fun c8 => ?_) (fun c8 => ?_)
    · replace h := zb_t c8 h
      refine lv_iconst (v := nI 0) hx hb zd_Offer_agreesTo_35 (by decide) ?_
      exact B36 _ _ ls (nI 0) σ3 hI (lv_sub hl [] rfl) h
    · replace h := zb_f c8 h
      refine lv_iconst (v := nI 1) hx hb zd_Offer_agreesTo_31 (by decide) ?_
      refine lv_goto hx hb (tgt := 36) zd_Offer_agreesTo_32 (by decide) ?_
      exact B36 _ _ ls (nI 1) σ3 hI (lv_sub hl [] rfl) h
  · replace h := zb_f c5 h
    refine lv_iload_n hx hb zd_Offer_agreesTo_7 rfl (lv_at hl 1 rfl) ?_
    refine lv_aload_n hx hb zd_Offer_agreesTo_8 rfl (lv_at hl 0 rfl) ?_
    obtain ⟨v10, e9, h⟩ := zb_o h
    refine za_geti hx hb hts hown hK hI zl_Offer_18 e9 zd_Offer_agreesTo_9 ?_
    refine lv_icmp_lt hx hb (tgt := 19) zd_Offer_agreesTo_12 (by decide) (fun c11 => ?_) (fun c11 => ?_)
    · replace h := zb_t c11 h
      refine lv_iconst (v := nI 0) hx hb zd_Offer_agreesTo_19 (by decide) ?_
      refine lv_goto hx hb (tgt := 36) zd_Offer_agreesTo_20 (by decide) ?_
      exact B36 _ _ ls (nI 0) σ3 hI (lv_sub hl [] rfl) h
    · replace h := zb_f c11 h
      refine lv_iconst (v := nI 1) hx hb zd_Offer_agreesTo_15 (by decide) ?_
      refine lv_goto hx hb (tgt := 36) zd_Offer_agreesTo_16 (by decide) ?_
      exact B36 _ _ ls (nI 1) σ3 hI (lv_sub hl [] rfl) h

def zf_Offer_prefers_30 (xs0 : Int32) (σ : za_h) : Option (Int32 × za_h) :=
  if xs0 = 0 ∨ xs0 = 1 then some (xs0, σ) else none

def zf_Offer_prefers (ay0 : Nat) (xy1 : Int32) (xy2 : Int32) (σ : za_h) : Option (Int32 × za_h) :=
  (zg_c σ ay0 5).bind fun _ =>
  (zf_Offer_sells ay0 σ).bind fun (r2, σ3) =>
  if r2 = 0 then
  (if xy2 ≤ xy1 then
  (zf_Offer_prefers_30 (nI 0) σ3)
  else
  (zf_Offer_prefers_30 (nI 1) σ3))
  else
  (if xy1 ≤ xy2 then
  (zf_Offer_prefers_30 (nI 0) σ3)
  else
  (zf_Offer_prefers_30 (nI 1) σ3))
set_option maxRecDepth 100000 in
set_option maxHeartbeats 4000000 in
theorem zm_Offer_prefers {l : Launch} {D : va_G} {ca : Nat → ClassId} {n0 : Nat} {ay0 : Nat} {xy1 : Int32} {xy2 : Int32} {σ σ' : za_h} {r : Int32} (h : zf_Offer_prefers ay0 xy1 xy2 σ = some (r, σ')) : Met l zy_Offer_prefers (za_wy zy_Offer_prefers zc_Offer_prefers 3 (some .boolean)) { frames := 1, cells := 0, slots := 0, locals := 20 } (za_Pc D ca n0 [.ref ay0, .int xy1, .int xy2] σ) (za_Qi D ca n0 r σ') 0 0 (za_A n0) := by
  refine za_met (by decide) (Nat.le_of_ble_eq_true rfl) ?_
  intro p e s m below meth c ls hx hb hml hr hlk hts hown hnm hK hI hl
  replace hown : s.vm.findClass zR_Offer = some m.cls := hown
  replace hl : lv_has ls 3 [(0, .ref ay0), (1, .int xy1), (2, .int xy2)] := hl
  have B30 : ∀ (H : Heap) (locs : List Loc) (ls : Array Slot) (xs0 : Int32) (σ : za_h), za_I D ca n0 s σ H locs → lv_has ls 3 [] → zf_Offer_prefers_30 xs0 σ = some (r, σ') → W p l e ({ frames := 1, cells := 0, slots := 0, locals := 20 }) s m ([.ref ay0, .int xy1, .int xy2] : List Value).toArray below meth c H locs 0 0 (MQ below (za_Qi D ca n0 r σ') ([.ref ay0, .int xy1, .int xy2] : List Value).toArray s 0 0 (za_A n0)) (F0 m 30 ls [.int xs0]) := by
    intro H locs ls xs0 σ hI hl h
    unfold zf_Offer_prefers_30 at h
    obtain ⟨g1, h⟩ := zb_g h
    exact za_zret hx hb hr hlk hI g1 h (Nat.le_of_ble_eq_true rfl) (Nat.le_of_ble_eq_true rfl) zd_Offer_prefers_30
  unfold zf_Offer_prefers at h
  refine lv_aload_n hx hb zd_Offer_prefers_0 rfl (lv_at hl 0 rfl) ?_
  obtain ⟨_, g1, h⟩ := zb_o h
  obtain ⟨⟨r2, σ3⟩, e4, h⟩ := zb_o h
  refine za_calli (za_runV hx hb hml hown hts hK hI g1 (zm_Offer_sells e4) zj_Offer_24 ⟨rfl, rfl⟩ ⟨Nat.le_of_ble_eq_true rfl, Nat.le_of_ble_eq_true rfl⟩ rfl hl.1 rfl (Nat.le_of_ble_eq_true rfl) zd_Offer_prefers_1 ⟨Nat.le_of_ble_eq_true rfl, Nat.le_of_ble_eq_true rfl⟩) hI (fun H locs hI => ?_)
  refine lv_if_eq hx hb (tgt := 20) zd_Offer_prefers_4 (by decide) (fun c5 => ?_) (fun c5 => ?_)
  · replace h := zb_t c5 h
    refine lv_iload_n hx hb zd_Offer_prefers_20 rfl (lv_at hl 1 rfl) ?_
    refine lv_iload_n hx hb zd_Offer_prefers_21 rfl (lv_at hl 2 rfl) ?_
    refine lv_icmp_ge hx hb (tgt := 29) zd_Offer_prefers_22 (by decide) (fun c6 => ?_) (fun c6 => ?_)
    · replace h := zb_t c6 h
      refine lv_iconst (v := nI 0) hx hb zd_Offer_prefers_29 (by decide) ?_
      exact B30 _ _ ls (nI 0) σ3 hI (lv_sub hl [] rfl) h
    · replace h := zb_f c6 h
      refine lv_iconst (v := nI 1) hx hb zd_Offer_prefers_25 (by decide) ?_
      refine lv_goto hx hb (tgt := 30) zd_Offer_prefers_26 (by decide) ?_
      exact B30 _ _ ls (nI 1) σ3 hI (lv_sub hl [] rfl) h
  · replace h := zb_f c5 h
    refine lv_iload_n hx hb zd_Offer_prefers_7 rfl (lv_at hl 1 rfl) ?_
    refine lv_iload_n hx hb zd_Offer_prefers_8 rfl (lv_at hl 2 rfl) ?_
    refine lv_icmp_le hx hb (tgt := 16) zd_Offer_prefers_9 (by decide) (fun c7 => ?_) (fun c7 => ?_)
    · replace h := zb_t c7 h
      refine lv_iconst (v := nI 0) hx hb zd_Offer_prefers_16 (by decide) ?_
      refine lv_goto hx hb (tgt := 30) zd_Offer_prefers_17 (by decide) ?_
      exact B30 _ _ ls (nI 0) σ3 hI (lv_sub hl [] rfl) h
    · replace h := zb_f c7 h
      refine lv_iconst (v := nI 1) hx hb zd_Offer_prefers_12 (by decide) ?_
      refine lv_goto hx hb (tgt := 30) zd_Offer_prefers_13 (by decide) ?_
      exact B30 _ _ ls (nI 1) σ3 hI (lv_sub hl [] rfl) h

def zf_Envelope_init (ay0 : Nat) (xy1 : Int32) (xy2 : Int32) (σ : za_h) : Option (Unit × za_h) :=
  (zp_f σ ay0 2 0 (.int xy1)).bind fun σ2 =>
  (zp_f σ2 ay0 2 1 (.int xy2)).bind fun σ4 =>
  (zp_f (za_n σ4 (.inl (0, 3, .inl (fun _ => 0)))) ay0 2 2 (.ref σ4.2)).bind fun σ6 =>
  (zp_f (za_n σ6 (.inl (0, 3, .inl (fun _ => 0)))) ay0 2 3 (.ref σ6.2)).bind fun σ8 =>
  some ((), σ8)
set_option maxRecDepth 100000 in
set_option maxHeartbeats 4000000 in
theorem zm_Envelope_init {l : Launch} {D : va_G} {ca : Nat → ClassId} {n0 : Nat} {ay0 : Nat} {xy1 : Int32} {xy2 : Int32} {σ σ' : za_h} {r : Unit} (h : zf_Envelope_init ay0 xy1 xy2 σ = some (r, σ')) : Met l zy_Envelope_init (za_wy zy_Envelope_init zc_Envelope_init 3 none) { frames := 1, cells := 2, slots := 6, locals := 20 } (za_Pc D ca n0 [.ref ay0, .int xy1, .int xy2] σ) (za_Qv D ca n0 r σ') 2 6 (za_A n0) := by
  refine za_met (by decide) (Nat.le_of_ble_eq_true rfl) ?_
  intro p e s m below meth c ls hx hb hml hr hlk hts hown hnm hK hI hl
  replace hown : s.vm.findClass zR_Envelope = some m.cls := hown
  replace hl : lv_has ls 3 [(0, .ref ay0), (1, .int xy1), (2, .int xy2)] := hl
  unfold zf_Envelope_init at h
  refine lv_aload_n hx hb zd_Envelope_init_0 rfl (lv_at hl 0 rfl) ?_
  refine W.objInit hx hb hown (hts _ zk_478) (hts _ zk_20) (hts _ zk_21) rfl (by rw [hml]; exact hl.1) rfl zd_Envelope_init_1 (Nat.le_of_ble_eq_true rfl) (Nat.le_of_ble_eq_true rfl) ?_
  refine W.eq (g2 := F0 m 4 ls []) rfl ?_
  refine lv_aload_n hx hb zd_Envelope_init_4 rfl (lv_at hl 0 rfl) ?_
  refine lv_iload_n hx hb zd_Envelope_init_5 rfl (lv_at hl 1 rfl) ?_
  obtain ⟨σ2, e1, h⟩ := zb_o h
  refine za_putF hx hb hts hown hnm hK hI zq_Envelope_9 e1 rfl rfl zd_Envelope_init_6 (fun H locs hI => ?_)
  refine lv_aload_n hx hb zd_Envelope_init_9 rfl (lv_at hl 0 rfl) ?_
  refine lv_iload_n hx hb zd_Envelope_init_10 rfl (lv_at hl 2 rfl) ?_
  obtain ⟨σ4, e3, h⟩ := zb_o h
  refine za_putF hx hb hts hown hnm hK hI zq_Envelope_15 e3 rfl rfl zd_Envelope_init_11 (fun H locs hI => ?_)
  refine lv_aload_n hx hb zd_Envelope_init_14 rfl (lv_at hl 0 rfl) ?_
  refine lv_iconst (v := nI 3) hx hb zd_Envelope_init_15 (by decide) ?_
  refine za_newa (atype := .int) (ty := .int) hx hb hts hK hI 0 rfl rfl (Or.inl rfl) zk_101 (by decide) (N := 3) (by decide) (by decide) (Nat.le_of_ble_eq_true rfl) (Nat.le_of_ble_eq_true rfl) zd_Envelope_init_16 (fun H hI => ?_)
  obtain ⟨σ6, e5, h⟩ := zb_o h
  refine za_putF hx hb hts hown hnm hK hI zq_Envelope_18 e5 rfl rfl zd_Envelope_init_18 (fun H locs hI => ?_)
  refine lv_aload_n hx hb zd_Envelope_init_21 rfl (lv_at hl 0 rfl) ?_
  refine lv_iconst (v := nI 3) hx hb zd_Envelope_init_22 (by decide) ?_
  refine za_newa (atype := .int) (ty := .int) hx hb hts hK hI 0 rfl rfl (Or.inl rfl) zk_101 (by decide) (N := 3) (by decide) (by decide) (Nat.le_of_ble_eq_true rfl) (Nat.le_of_ble_eq_true rfl) zd_Envelope_init_23 (fun H hI => ?_)
  obtain ⟨σ8, e7, h⟩ := zb_o h
  refine za_putF hx hb hts hown hnm hK hI zq_Envelope_22 e7 rfl rfl zd_Envelope_init_25 (fun H locs hI => ?_)
  exact za_vret hx hb hr hlk hI h (Nat.le_of_ble_eq_true rfl) (Nat.le_of_ble_eq_true rfl) zd_Envelope_init_28

def zf_Envelope_claim (ay0 : Nat) (xy1 : Int32) (xy2 : Int32) (σ : za_h) : Option (Unit × za_h) :=
  (zg_r σ ay0 2 2).bind fun b2 =>
  (za_st σ b2 0 xy1 xy2).bind fun σ3 =>
  (zg_r σ3 ay0 2 3).bind fun b6 =>
  (za_st σ3 b6 0 xy1 xy2).bind fun σ7 =>
  some ((), σ7)
set_option maxRecDepth 100000 in
set_option maxHeartbeats 4000000 in
theorem zm_Envelope_claim {l : Launch} {D : va_G} {ca : Nat → ClassId} {n0 : Nat} {ay0 : Nat} {xy1 : Int32} {xy2 : Int32} {σ σ' : za_h} {r : Unit} (h : zf_Envelope_claim ay0 xy1 xy2 σ = some (r, σ')) : Met l zy_Envelope_claim (za_wy zy_Envelope_claim zc_Envelope_claim 3 none) { frames := 0, cells := 0, slots := 0, locals := 0 } (za_Pc D ca n0 [.ref ay0, .int xy1, .int xy2] σ) (za_Qv D ca n0 r σ') 0 0 (za_A n0) := by
  refine za_met (by decide) (Nat.le_of_ble_eq_true rfl) ?_
  intro p e s m below meth c ls hx hb hml hr hlk hts hown hnm hK hI hl
  replace hown : s.vm.findClass zR_Envelope = some m.cls := hown
  replace hl : lv_has ls 3 [(0, .ref ay0), (1, .int xy1), (2, .int xy2)] := hl
  unfold zf_Envelope_claim at h
  refine lv_aload_n hx hb zd_Envelope_claim_0 rfl (lv_at hl 0 rfl) ?_
  obtain ⟨b2, e1, h⟩ := zb_o h
  refine za_getr hx hb hts hown hK hI zl_Envelope_18 e1 zd_Envelope_claim_1 ?_
  refine lv_iload_n hx hb zd_Envelope_claim_4 rfl (lv_at hl 1 rfl) ?_
  refine lv_iload_n hx hb zd_Envelope_claim_5 rfl (lv_at hl 2 rfl) ?_
  obtain ⟨σ3, e4, h⟩ := zb_o h
  refine za_iast hx hb hK hI e4 zd_Envelope_claim_6 (fun H locs hI => ?_)
  refine lv_aload_n hx hb zd_Envelope_claim_7 rfl (lv_at hl 0 rfl) ?_
  obtain ⟨b6, e5, h⟩ := zb_o h
  refine za_getr hx hb hts hown hK hI zl_Envelope_22 e5 zd_Envelope_claim_8 ?_
  refine lv_iload_n hx hb zd_Envelope_claim_11 rfl (lv_at hl 1 rfl) ?_
  refine lv_iload_n hx hb zd_Envelope_claim_12 rfl (lv_at hl 2 rfl) ?_
  obtain ⟨σ7, e8, h⟩ := zb_o h
  refine za_iast hx hb hK hI e8 zd_Envelope_claim_13 (fun H locs hI => ?_)
  exact za_vret hx hb hr hlk hI h (Nat.le_of_ble_eq_true rfl) (Nat.le_of_ble_eq_true rfl) zd_Envelope_claim_14
