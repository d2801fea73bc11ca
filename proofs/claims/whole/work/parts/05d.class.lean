def zf_TL_init_35 : Nat → Nat → Nat → Int32 → za_h → Option (Unit × za_h)
  | 0, _, _, _, _ => none
  | n + 1, a0, a2, x3, σ =>
  if (nI 5) ≤ x3 then
  ((zp_f (za_n σ (.inl (6, 9, .inr (fun _ => none)))) a0 0 3 (.ref σ.2)).bind fun σ3 =>
  (zp_f (za_n σ3 (.inl (3, 120, .inr (fun _ => none)))) a0 0 4 (.ref σ3.2)).bind fun σ5 =>
  some ((), σ5))
  else
  ((zg_r σ a0 0 2).bind fun b7 =>
  (zf_Node_init σ.2 x3 a2 (za_n σ (.inr (4, [.null, .null, .int 0, .int 0])))).bind fun (_, σ9) =>
  (za_sq σ9 b7 4 4 x3 (some σ.2)).bind fun σ11 =>
  zf_TL_init_35 n a0 a2 (x3 + nI 1) σ11)

def zf_TL_init (ay0 : Nat) (xy1 : Int32) (σ : za_h) : Option (Unit × za_h) :=
  (zp_f σ ay0 0 0 (.int (xy1 &&& (nI 31)))).bind fun σ2 =>
  (zf_Quorums_init σ2.2 (za_n σ2 (.inr (6, [.null])))).bind fun (_, σ4) =>
  (zp_f σ4 ay0 0 1 (.ref σ2.2)).bind fun σ7 =>
  (zp_f (za_n σ7 (.inl (4, 5, .inr (fun _ => none)))) ay0 0 2 (.ref σ7.2)).bind fun σ9 =>
  zf_TL_init_35 6 ay0 σ2.2 (nI 0) σ9
set_option maxRecDepth 100000 in
set_option maxHeartbeats 4000000 in
theorem zm_TL_init {l : Launch} {D : va_G} {ca : Nat → ClassId} {n0 : Nat} {ay0 : Nat} {xy1 : Int32} {σ σ' : za_h} {r : Unit} (h : zf_TL_init ay0 xy1 σ = some (r, σ')) : Met l zy_TL_init (za_wy zy_TL_init zc_TL_init 4 none) { frames := 4, cells := 287, slots := 1742, locals := 88 } (za_Pc D ca n0 [.ref ay0, .int xy1] σ) (za_Qv D ca n0 r σ') 287 1742 (za_A n0) := by
  refine za_met (by decide) (Nat.le_of_ble_eq_true rfl) ?_
  intro p e s m below meth c ls hx hb hml hr hlk hts hown hnm hK hI hl
  replace hown : s.vm.findClass zR_TL = some m.cls := hown
  replace hl : lv_has ls 4 [(0, .ref ay0), (1, .int xy1)] := hl
  have B35 : ∀ n : Nat, ∀ (H : Heap) (locs : List Loc) (cells slots : Nat) (_ : cells + n * 46 ≤ 285) (_ : slots + n * 263 ≤ 1613) (ls : Array Slot) (a0 : Nat) (a2 : Nat) (x3 : Int32) (σ : za_h), za_I D ca n0 s σ H locs → lv_has ls 4 [(0, .ref a0), (2, .ref a2), (3, .int x3)] → zf_TL_init_35 n a0 a2 x3 σ = some (r, σ') → W p l e ({ frames := 4, cells := 287, slots := 1742, locals := 88 }) s m ([.ref ay0, .int xy1] : List Value).toArray below meth c H locs cells slots (MQ below (za_Qv D ca n0 r σ') ([.ref ay0, .int xy1] : List Value).toArray s 287 1742 (za_A n0)) (F0 m 35 ls []) := by
    intro n
    induction n with
    | zero => intro H locs cells slots hcl hsl ls a0 a2 x3 σ hI hl h; rw [zf_TL_init_35] at h; cases h
    | succ n ih =>
      intro H locs cells slots hcl hsl ls a0 a2 x3 σ hI hl h
      rw [zf_TL_init_35] at h
      refine lv_iload_n hx hb zd_TL_init_35 rfl (lv_at hl 2 rfl) ?_
      refine lv_iconst (v := nI 5) hx hb zd_TL_init_36 (by decide) ?_
      refine lv_icmp_ge hx hb (tgt := 61) zd_TL_init_37 (by decide) (fun c1 => ?_) (fun c1 => ?_)
      · replace h := zb_t c1 h
        refine lv_aload_n hx hb zd_TL_init_61 rfl (lv_at hl 0 rfl) ?_
        refine lv_bipush (v := nI 9) hx hb zd_TL_init_62 (by decide) ?_
        refine za_newq hx hb hts hown hK hI 6 rfl zk_176 (by decide) (N := 9) (by decide) (by decide) (by show _ + _ ≤ 287; omega) (by show _ + _ ≤ 1742; omega) zd_TL_init_64 (fun H hI => ?_)
        obtain ⟨σ3, e2, h⟩ := zb_o h
        refine za_putF hx hb hts hown hnm hK hI zq_TL_31 e2 rfl rfl zd_TL_init_67 (fun H locs hI => ?_)
        refine lv_aload_n hx hb zd_TL_init_70 rfl (lv_at hl 0 rfl) ?_
        refine lv_bipush (v := nI 120) hx hb zd_TL_init_71 (by decide) ?_
        refine za_newq hx hb hts hown hK hI 3 rfl zk_178 (by decide) (N := 120) (by decide) (by decide) (by show _ + _ ≤ 287; omega) (by show _ + _ ≤ 1742; omega) zd_TL_init_73 (fun H hI => ?_)
        obtain ⟨σ5, e4, h⟩ := zb_o h
        refine za_putF hx hb hts hown hnm hK hI zq_TL_37 e4 rfl rfl zd_TL_init_76 (fun H locs hI => ?_)
        exact za_vret hx hb hr hlk hI h (by omega) (by omega) zd_TL_init_79
      · replace h := zb_f c1 h
        refine lv_aload_n hx hb zd_TL_init_40 rfl (lv_at hl 0 rfl) ?_
        obtain ⟨b7, e6, h⟩ := zb_o h
        refine za_getr hx hb hts hown hK hI zl_TL_22 e6 zd_TL_init_41 ?_
        refine lv_iload_n hx hb zd_TL_init_44 rfl (lv_at hl 2 rfl) ?_
        refine za_new hx hb hts hown hK hI zw_TL_20 (by show _ + _ ≤ 287; omega) (by show _ + _ ≤ 1742; omega) zd_TL_init_45 (fun H hI => ?_)
        refine lv_dup hx hb zd_TL_init_48 rfl ?_
        refine lv_iload_n hx hb zd_TL_init_49 rfl (lv_at hl 2 rfl) ?_
        refine lv_aload_n hx hb zd_TL_init_50 rfl (lv_at hl 1 rfl) ?_
        obtain ⟨⟨r8, σ9⟩, e10, h⟩ := zb_o h
        refine za_callv (za_runI hx hb hml hown hts hK hI (zm_Node_init e10) zj_TL_26 ⟨rfl, rfl⟩ ⟨Nat.le_of_ble_eq_true rfl, Nat.le_of_ble_eq_true rfl⟩ rfl hl.1 rfl (Nat.le_of_ble_eq_true rfl) zd_TL_init_51 ⟨by show _ + _ ≤ 287; omega, by show _ + _ ≤ 1742; omega⟩) hI (fun H locs hI => ?_)
        obtain ⟨σ11, e12, h⟩ := zb_o h
        refine za_aast (o := (some σ.2)) hx hb hK hI (t := 4) (ci := 4) rfl ⟨_, _, rfl⟩ e12 zd_TL_init_54 (fun H locs hI => ?_)
        refine lv_iinc (k := 2) (v := (x3 + nI 1)) (lv' := [(3, .int (x3 + nI 1)), (0, .ref a0), (2, .ref a2)]) hx hb zd_TL_init_55 hl rfl rfl (Nat.le_of_ble_eq_true rfl) rfl (fun ls hl => ?_)
        refine lv_goto hx hb (tgt := 35) zd_TL_init_58 (by decide) ?_
        exact ih _ _ _ _ (by omega) (by omega) ls a0 a2 (x3 + nI 1) σ11 hI (lv_sub hl [1, 2, 0] rfl) h
  unfold zf_TL_init at h
  refine lv_aload_n hx hb zd_TL_init_0 rfl (lv_at hl 0 rfl) ?_
  refine W.objInit hx hb hown (hts _ zk_19) (hts _ zk_20) (hts _ zk_21) rfl (by rw [hml]; exact hl.1) rfl zd_TL_init_1 (Nat.le_of_ble_eq_true rfl) (Nat.le_of_ble_eq_true rfl) ?_
  refine W.eq (g2 := F0 m 4 ls []) rfl ?_
  refine lv_aload_n hx hb zd_TL_init_4 rfl (lv_at hl 0 rfl) ?_
  refine lv_iload_n hx hb zd_TL_init_5 rfl (lv_at hl 1 rfl) ?_
  refine lv_bipush (v := nI 31) hx hb zd_TL_init_6 (by decide) ?_
  refine lv_iand hx hb zd_TL_init_8 ?_
  obtain ⟨σ2, e1, h⟩ := zb_o h
  refine za_putF hx hb hts hown hnm hK hI zq_TL_9 e1 rfl rfl zd_TL_init_9 (fun H locs hI => ?_)
  refine za_new hx hb hts hown hK hI zw_TL_13 (Nat.le_of_ble_eq_true rfl) (Nat.le_of_ble_eq_true rfl) zd_TL_init_12 (fun H hI => ?_)
  refine lv_dup hx hb zd_TL_init_15 rfl ?_
  obtain ⟨⟨r3, σ4⟩, e5, h⟩ := zb_o h
  refine za_callv (za_runI hx hb hml hown hts hK hI (zm_Quorums_init e5) zj_TL_15 ⟨rfl, rfl⟩ ⟨Nat.le_of_ble_eq_true rfl, Nat.le_of_ble_eq_true rfl⟩ rfl hl.1 rfl (Nat.le_of_ble_eq_true rfl) zd_TL_init_16 ⟨Nat.le_of_ble_eq_true rfl, Nat.le_of_ble_eq_true rfl⟩) hI (fun H locs hI => ?_)
  refine lv_astore_n (lv' := [(2, .ref σ2.2), (0, .ref ay0), (1, .int xy1)]) hx hb zd_TL_init_19 rfl hl (Nat.le_of_ble_eq_true rfl) rfl (fun ls hl => ?_)
  refine lv_aload_n hx hb zd_TL_init_20 rfl (lv_at hl 1 rfl) ?_
  refine lv_aload_n hx hb zd_TL_init_21 rfl (lv_at hl 0 rfl) ?_
  obtain ⟨σ7, e6, h⟩ := zb_o h
  refine za_putF hx hb hts hown hnm hK hI zq_TL_16 e6 rfl rfl zd_TL_init_22 (fun H locs hI => ?_)
  refine lv_aload_n hx hb zd_TL_init_25 rfl (lv_at hl 1 rfl) ?_
  refine lv_iconst (v := nI 5) hx hb zd_TL_init_26 (by decide) ?_
  refine za_newq hx hb hts hown hK hI 4 rfl zk_55 (by decide) (N := 5) (by decide) (by decide) (Nat.le_of_ble_eq_true rfl) (Nat.le_of_ble_eq_true rfl) zd_TL_init_27 (fun H hI => ?_)
  obtain ⟨σ9, e8, h⟩ := zb_o h
  refine za_putF hx hb hts hown hnm hK hI zq_TL_22 e8 rfl rfl zd_TL_init_30 (fun H locs hI => ?_)
  refine lv_iconst (v := nI 0) hx hb zd_TL_init_33 (by decide) ?_
  refine lv_istore_n (lv' := [(3, .int (nI 0)), (2, .ref σ2.2), (0, .ref ay0), (1, .int xy1)]) hx hb zd_TL_init_34 rfl hl (Nat.le_of_ble_eq_true rfl) rfl (fun ls hl => ?_)
  exact B35 6 _ _ _ _ (by omega) (by omega) ls ay0 σ2.2 (nI 0) σ9 hI (lv_sub hl [2, 1, 0] rfl) h

def zf_TL_trust_69  (σ : za_h) : Option (Int32 × za_h) :=
  some ((nI 0), σ)

def zf_TL_trust_55 (a0 : Nat) (x1 : Int32) (x2 : Int32) (x3 : Int32) (x4 : Int32) (x5 : Int32) (xs0 : Int32) (σ : za_h) : Option (Int32 × za_h) :=
  if xs0 = 0 then
  (zf_TL_trust_69 σ)
  else
  ((zg_i σ a0 0 6).bind fun v3 =>
  if v3 = 0 then
  ((zg_r σ a0 0 1).bind fun b6 =>
  (zg_r σ b6 6 0).bind fun b8 =>
  (za_ln σ b8 7 x1).bind fun b9 =>
  (zg_c σ b9 9).bind fun _ =>
  (zf_Trust_become b9 x2 x3 x4 x5 σ).bind fun (_, σ13) =>
  some ((nI 1), σ13))
  else
  (zf_TL_trust_69 σ))

def zf_TL_trust_54 (a0 : Nat) (x1 : Int32) (x2 : Int32) (x3 : Int32) (x4 : Int32) (x5 : Int32) (σ : za_h) : Option (Int32 × za_h) :=
  zf_TL_trust_55 a0 x1 x2 x3 x4 x5 (nI 0) σ

def zf_TL_trust (ay0 : Nat) (xy1 : Int32) (xy2 : Int32) (xy3 : Int32) (xy4 : Int32) (xy5 : Int32) (σ : za_h) : Option (Int32 × za_h) :=
  (zf_TL_isWithin xy1 (nI 0) (nI 4) σ).bind fun (r1, σ2) =>
  if r1 = 0 then
  (zf_TL_trust_54 ay0 xy1 xy2 xy3 xy4 xy5 σ2)
  else
  ((zf_TL_isWithin xy2 (nI 1) (nI 6) σ2).bind fun (r5, σ6) =>
  if r5 = 0 then
  (zf_TL_trust_54 ay0 xy1 xy2 xy3 xy4 xy5 σ6)
  else
  ((zf_TL_isWithin xy3 (nI 0) (nI 31) σ6).bind fun (r9, σ10) =>
  if r9 = 0 then
  (zf_TL_trust_54 ay0 xy1 xy2 xy3 xy4 xy5 σ10)
  else
  ((zf_TL_isWithin xy4 (nI 0) (nI 5) σ10).bind fun (r13, σ14) =>
  if r13 = 0 then
  (zf_TL_trust_54 ay0 xy1 xy2 xy3 xy4 xy5 σ14)
  else
  ((zf_TL_isWithin xy5 (nI 0) (nI 31) σ14).bind fun (r17, σ18) =>
  if r17 = 0 then
  (zf_TL_trust_54 ay0 xy1 xy2 xy3 xy4 xy5 σ18)
  else
  (zf_TL_trust_55 ay0 xy1 xy2 xy3 xy4 xy5 (nI 1) σ18)))))
set_option maxRecDepth 100000 in
set_option maxHeartbeats 4000000 in
theorem zm_TL_trust {l : Launch} {D : va_G} {ca : Nat → ClassId} {n0 : Nat} {ay0 : Nat} {xy1 : Int32} {xy2 : Int32} {xy3 : Int32} {xy4 : Int32} {xy5 : Int32} {σ σ' : za_h} {r : Int32} (h : zf_TL_trust ay0 xy1 xy2 xy3 xy4 xy5 σ = some (r, σ')) : Met l zy_TL_trust (za_wy zy_TL_trust zc_TL_trust 7 (some .boolean)) { frames := 1, cells := 0, slots := 0, locals := 24 } (za_Pc D ca n0 [.ref ay0, .int xy1, .int xy2, .int xy3, .int xy4, .int xy5] σ) (za_Qi D ca n0 r σ') 0 0 (za_A n0) := by
  refine za_met (by decide) (Nat.le_of_ble_eq_true rfl) ?_
  intro p e s m below meth c ls hx hb hml hr hlk hts hown hnm hK hI hl
  replace hown : s.vm.findClass zR_TL = some m.cls := hown
  replace hl : lv_has ls 7 [(0, .ref ay0), (1, .int xy1), (2, .int xy2), (3, .int xy3), (4, .int xy4), (5, .int xy5)] := hl
  have B69 : ∀ (H : Heap) (locs : List Loc) (ls : Array Slot) (σ : za_h), za_I D ca n0 s σ H locs → lv_has ls 7 [] → zf_TL_trust_69 σ = some (r, σ') → W p l e ({ frames := 1, cells := 0, slots := 0, locals := 24 }) s m ([.ref ay0, .int xy1, .int xy2, .int xy3, .int xy4, .int xy5] : List Value).toArray below meth c H locs 0 0 (MQ below (za_Qi D ca n0 r σ') ([.ref ay0, .int xy1, .int xy2, .int xy3, .int xy4, .int xy5] : List Value).toArray s 0 0 (za_A n0)) (F0 m 69 ls []) := by
    intro H locs ls σ hI hl h
    unfold zf_TL_trust_69 at h
    refine lv_iconst (v := nI 0) hx hb zd_TL_trust_69 (by decide) ?_
    exact za_zret hx hb hr hlk hI (by decide) h (Nat.le_of_ble_eq_true rfl) (Nat.le_of_ble_eq_true rfl) zd_TL_trust_70
  have B55 : ∀ (H : Heap) (locs : List Loc) (ls : Array Slot) (a0 : Nat) (x1 : Int32) (x2 : Int32) (x3 : Int32) (x4 : Int32) (x5 : Int32) (xs0 : Int32) (σ : za_h), za_I D ca n0 s σ H locs → lv_has ls 7 [(0, .ref a0), (1, .int x1), (2, .int x2), (3, .int x3), (4, .int x4), (5, .int x5)] → zf_TL_trust_55 a0 x1 x2 x3 x4 x5 xs0 σ = some (r, σ') → W p l e ({ frames := 1, cells := 0, slots := 0, locals := 24 }) s m ([.ref ay0, .int xy1, .int xy2, .int xy3, .int xy4, .int xy5] : List Value).toArray below meth c H locs 0 0 (MQ below (za_Qi D ca n0 r σ') ([.ref ay0, .int xy1, .int xy2, .int xy3, .int xy4, .int xy5] : List Value).toArray s 0 0 (za_A n0)) (F0 m 55 ls [.int xs0]) := by
    intro H locs ls a0 x1 x2 x3 x4 x5 xs0 σ hI hl h
    unfold zf_TL_trust_55 at h
    refine lv_istore (lv' := [(6, .int xs0), (0, .ref a0), (1, .int x1), (2, .int x2), (3, .int x3), (4, .int x4), (5, .int x5)]) hx hb zd_TL_trust_55 hl (Nat.le_of_ble_eq_true rfl) rfl (fun ls hl => ?_)
    refine lv_iload hx hb zd_TL_trust_57 (lv_at hl 0 rfl) ?_
    refine lv_if_eq hx hb (tgt := 69) zd_TL_trust_59 (by decide) (fun c1 => ?_) (fun c1 => ?_)
    · replace h := zb_t c1 h
      exact B69 _ _ ls σ hI (lv_sub hl [] rfl) h
    · replace h := zb_f c1 h
      refine lv_aload_n hx hb zd_TL_trust_62 rfl (lv_at hl 1 rfl) ?_
      obtain ⟨v3, e2, h⟩ := zb_o h
      refine za_geti hx hb hts hown hK hI zl_TL_45 e2 zd_TL_trust_63 ?_
      refine lv_if_eq hx hb (tgt := 71) zd_TL_trust_66 (by decide) (fun c4 => ?_) (fun c4 => ?_)
      · replace h := zb_t c4 h
        refine lv_aload_n hx hb zd_TL_trust_71 rfl (lv_at hl 1 rfl) ?_
        obtain ⟨b6, e5, h⟩ := zb_o h
        refine za_getr hx hb hts hown hK hI zl_TL_16 e5 zd_TL_trust_72 ?_
        obtain ⟨b8, e7, h⟩ := zb_o h
        refine za_getr hx hb hts hown hK hI zl_TL_49 e7 zd_TL_trust_75 ?_
        refine lv_iload_n hx hb zd_TL_trust_78 rfl (lv_at hl 2 rfl) ?_
        obtain ⟨b9, e10, h⟩ := zb_o h
        refine za_aaln hx hb hK hI (t := 7) rfl e10 zd_TL_trust_79 ?_
        refine lv_iload_n hx hb zd_TL_trust_80 rfl (lv_at hl 3 rfl) ?_
        refine lv_iload_n hx hb zd_TL_trust_81 rfl (lv_at hl 4 rfl) ?_
        refine lv_iload hx hb zd_TL_trust_82 (lv_at hl 5 rfl) ?_
        refine lv_iload hx hb zd_TL_trust_84 (lv_at hl 6 rfl) ?_
        obtain ⟨_, g11, h⟩ := zb_o h
        obtain ⟨⟨r12, σ13⟩, e14, h⟩ := zb_o h
        refine za_callv (za_runV hx hb hml hown hts hK hI g11 (zm_Trust_become e14) zj_TL_53 ⟨rfl, rfl⟩ ⟨Nat.le_of_ble_eq_true rfl, Nat.le_of_ble_eq_true rfl⟩ rfl hl.1 rfl (Nat.le_of_ble_eq_true rfl) zd_TL_trust_86 ⟨Nat.le_of_ble_eq_true rfl, Nat.le_of_ble_eq_true rfl⟩) hI (fun H locs hI => ?_)
        refine lv_iconst (v := nI 1) hx hb zd_TL_trust_89 (by decide) ?_
        exact za_zret hx hb hr hlk hI (by decide) h (Nat.le_of_ble_eq_true rfl) (Nat.le_of_ble_eq_true rfl) zd_TL_trust_90
      · replace h := zb_f c4 h
        exact B69 _ _ ls σ hI (lv_sub hl [] rfl) h
  have B54 : ∀ (H : Heap) (locs : List Loc) (ls : Array Slot) (a0 : Nat) (x1 : Int32) (x2 : Int32) (x3 : Int32) (x4 : Int32) (x5 : Int32) (σ : za_h), za_I D ca n0 s σ H locs → lv_has ls 7 [(0, .ref a0), (1, .int x1), (2, .int x2), (3, .int x3), (4, .int x4), (5, .int x5)] → zf_TL_trust_54 a0 x1 x2 x3 x4 x5 σ = some (r, σ') → W p l e ({ frames := 1, cells := 0, slots := 0, locals := 24 }) s m ([.ref ay0, .int xy1, .int xy2, .int xy3, .int xy4, .int xy5] : List Value).toArray below meth c H locs 0 0 (MQ below (za_Qi D ca n0 r σ') ([.ref ay0, .int xy1, .int xy2, .int xy3, .int xy4, .int xy5] : List Value).toArray s 0 0 (za_A n0)) (F0 m 54 ls []) := by
    intro H locs ls a0 x1 x2 x3 x4 x5 σ hI hl h
    unfold zf_TL_trust_54 at h
    refine lv_iconst (v := nI 0) hx hb zd_TL_trust_54 (by decide) ?_
    exact B55 _ _ ls a0 x1 x2 x3 x4 x5 (nI 0) σ hI (lv_sub hl [0, 1, 2, 3, 4, 5] rfl) h
  unfold zf_TL_trust at h
  refine lv_iload_n hx hb zd_TL_trust_0 rfl (lv_at hl 1 rfl) ?_
  refine lv_iconst (v := nI 0) hx hb zd_TL_trust_1 (by decide) ?_
  refine lv_iconst (v := nI 4) hx hb zd_TL_trust_2 (by decide) ?_
  obtain ⟨⟨r1, σ2⟩, e3, h⟩ := zb_o h
  refine za_calli (za_runS hx hb hml hown hts hK hI (zm_TL_isWithin e3) zj_TL_41 ⟨rfl, rfl⟩ ⟨Nat.le_of_ble_eq_true rfl, Nat.le_of_ble_eq_true rfl⟩ rfl hl.1 rfl (Nat.le_of_ble_eq_true rfl) zd_TL_trust_3 ⟨Nat.le_of_ble_eq_true rfl, Nat.le_of_ble_eq_true rfl⟩) hI (fun H locs hI => ?_)
  refine lv_if_eq hx hb (tgt := 54) zd_TL_trust_6 (by decide) (fun c4 => ?_) (fun c4 => ?_)
  · replace h := zb_t c4 h
    exact B54 _ _ ls ay0 xy1 xy2 xy3 xy4 xy5 σ2 hI (lv_sub hl [0, 1, 2, 3, 4, 5] rfl) h
  · replace h := zb_f c4 h
    refine lv_iload_n hx hb zd_TL_trust_9 rfl (lv_at hl 2 rfl) ?_
    refine lv_iconst (v := nI 1) hx hb zd_TL_trust_10 (by decide) ?_
    refine lv_bipush (v := nI 6) hx hb zd_TL_trust_11 (by decide) ?_
    obtain ⟨⟨r5, σ6⟩, e7, h⟩ := zb_o h
    refine za_calli (za_runS hx hb hml hown hts hK hI (zm_TL_isWithin e7) zj_TL_41 ⟨rfl, rfl⟩ ⟨Nat.le_of_ble_eq_true rfl, Nat.le_of_ble_eq_true rfl⟩ rfl hl.1 rfl (Nat.le_of_ble_eq_true rfl) zd_TL_trust_13 ⟨Nat.le_of_ble_eq_true rfl, Nat.le_of_ble_eq_true rfl⟩) hI (fun H locs hI => ?_)
    refine lv_if_eq hx hb (tgt := 54) zd_TL_trust_16 (by decide) (fun c8 => ?_) (fun c8 => ?_)
    · replace h := zb_t c8 h
      exact B54 _ _ ls ay0 xy1 xy2 xy3 xy4 xy5 σ6 hI (lv_sub hl [0, 1, 2, 3, 4, 5] rfl) h
    · replace h := zb_f c8 h
      refine lv_iload_n hx hb zd_TL_trust_19 rfl (lv_at hl 3 rfl) ?_
      refine lv_iconst (v := nI 0) hx hb zd_TL_trust_20 (by decide) ?_
      refine lv_bipush (v := nI 31) hx hb zd_TL_trust_21 (by decide) ?_
      obtain ⟨⟨r9, σ10⟩, e11, h⟩ := zb_o h
      refine za_calli (za_runS hx hb hml hown hts hK hI (zm_TL_isWithin e11) zj_TL_41 ⟨rfl, rfl⟩ ⟨Nat.le_of_ble_eq_true rfl, Nat.le_of_ble_eq_true rfl⟩ rfl hl.1 rfl (Nat.le_of_ble_eq_true rfl) zd_TL_trust_23 ⟨Nat.le_of_ble_eq_true rfl, Nat.le_of_ble_eq_true rfl⟩) hI (fun H locs hI => ?_)
      refine lv_if_eq hx hb (tgt := 54) zd_TL_trust_26 (by decide) (fun c12 => ?_) (fun c12 => ?_)
      · replace h := zb_t c12 h
        exact B54 _ _ ls ay0 xy1 xy2 xy3 xy4 xy5 σ10 hI (lv_sub hl [0, 1, 2, 3, 4, 5] rfl) h
      · replace h := zb_f c12 h
        refine lv_iload hx hb zd_TL_trust_29 (lv_at hl 4 rfl) ?_
        refine lv_iconst (v := nI 0) hx hb zd_TL_trust_31 (by decide) ?_
        refine lv_iconst (v := nI 5) hx hb zd_TL_trust_32 (by decide) ?_
        obtain ⟨⟨r13, σ14⟩, e15, h⟩ := zb_o h
        refine za_calli (za_runS hx hb hml hown hts hK hI (zm_TL_isWithin e15) zj_TL_41 ⟨rfl, rfl⟩ ⟨Nat.le_of_ble_eq_true rfl, Nat.le_of_ble_eq_true rfl⟩ rfl hl.1 rfl (Nat.le_of_ble_eq_true rfl) zd_TL_trust_33 ⟨Nat.le_of_ble_eq_true rfl, Nat.le_of_ble_eq_true rfl⟩) hI (fun H locs hI => ?_)
        refine lv_if_eq hx hb (tgt := 54) zd_TL_trust_36 (by decide) (fun c16 => ?_) (fun c16 => ?_)
        · replace h := zb_t c16 h
          exact B54 _ _ ls ay0 xy1 xy2 xy3 xy4 xy5 σ14 hI (lv_sub hl [0, 1, 2, 3, 4, 5] rfl) h
        · replace h := zb_f c16 h
          refine lv_iload hx hb zd_TL_trust_39 (lv_at hl 5 rfl) ?_
          refine lv_iconst (v := nI 0) hx hb zd_TL_trust_41 (by decide) ?_
          refine lv_bipush (v := nI 31) hx hb zd_TL_trust_42 (by decide) ?_
          obtain ⟨⟨r17, σ18⟩, e19, h⟩ := zb_o h
          refine za_calli (za_runS hx hb hml hown hts hK hI (zm_TL_isWithin e19) zj_TL_41 ⟨rfl, rfl⟩ ⟨Nat.le_of_ble_eq_true rfl, Nat.le_of_ble_eq_true rfl⟩ rfl hl.1 rfl (Nat.le_of_ble_eq_true rfl) zd_TL_trust_44 ⟨Nat.le_of_ble_eq_true rfl, Nat.le_of_ble_eq_true rfl⟩) hI (fun H locs hI => ?_)
          refine lv_if_eq hx hb (tgt := 54) zd_TL_trust_47 (by decide) (fun c20 => ?_) (fun c20 => ?_)
          · replace h := zb_t c20 h
            exact B54 _ _ ls ay0 xy1 xy2 xy3 xy4 xy5 σ18 hI (lv_sub hl [0, 1, 2, 3, 4, 5] rfl) h
          · replace h := zb_f c20 h
            refine lv_iconst (v := nI 1) hx hb zd_TL_trust_50 (by decide) ?_
            refine lv_goto hx hb (tgt := 55) zd_TL_trust_51 (by decide) ?_
            exact B55 _ _ ls ay0 xy1 xy2 xy3 xy4 xy5 (nI 1) σ18 hI (lv_sub hl [0, 1, 2, 3, 4, 5] rfl) h

def zf_TL_isLeft_2 : Nat → Nat → Int32 → Int32 → za_h → Option (Int32 × za_h)
  | 0, _, _, _, _ => none
  | n + 1, a0, x1, x2, σ =>
  if (nI 5) ≤ x2 then
  (some ((nI 0), σ))
  else
  ((zg_r σ a0 0 2).bind fun b3 =>
  (za_ln σ b3 4 x2).bind fun b4 =>
  (zg_i σ b4 4 2).bind fun v7 =>
  if v7 ≤ x1 then
  (zf_TL_isLeft_2 n a0 x1 (x2 + nI 1) σ)
  else
  (some ((nI 1), σ)))

def zf_TL_isLeft (ay0 : Nat) (xy1 : Int32) (σ : za_h) : Option (Int32 × za_h) :=
  zf_TL_isLeft_2 6 ay0 xy1 (nI 0) σ
set_option maxRecDepth 100000 in
set_option maxHeartbeats 4000000 in
theorem zm_TL_isLeft {l : Launch} {D : va_G} {ca : Nat → ClassId} {n0 : Nat} {ay0 : Nat} {xy1 : Int32} {σ σ' : za_h} {r : Int32} (h : zf_TL_isLeft ay0 xy1 σ = some (r, σ')) : Met l zy_TL_isLeft (za_wy zy_TL_isLeft zc_TL_isLeft 3 (some .boolean)) { frames := 0, cells := 0, slots := 0, locals := 0 } (za_Pc D ca n0 [.ref ay0, .int xy1] σ) (za_Qi D ca n0 r σ') 0 0 (za_A n0) := by
  refine za_met (by decide) (Nat.le_of_ble_eq_true rfl) ?_
  intro p e s m below meth c ls hx hb hml hr hlk hts hown hnm hK hI hl
  replace hown : s.vm.findClass zR_TL = some m.cls := hown
  replace hl : lv_has ls 3 [(0, .ref ay0), (1, .int xy1)] := hl
  have B2 : ∀ n : Nat, ∀ (H : Heap) (locs : List Loc) (ls : Array Slot) (a0 : Nat) (x1 : Int32) (x2 : Int32) (σ : za_h), za_I D ca n0 s σ H locs → lv_has ls 3 [(0, .ref a0), (1, .int x1), (2, .int x2)] → zf_TL_isLeft_2 n a0 x1 x2 σ = some (r, σ') → W p l e ({ frames := 0, cells := 0, slots := 0, locals := 0 }) s m ([.ref ay0, .int xy1] : List Value).toArray below meth c H locs 0 0 (MQ below (za_Qi D ca n0 r σ') ([.ref ay0, .int xy1] : List Value).toArray s 0 0 (za_A n0)) (F0 m 2 ls []) := by
    intro n
    induction n with
    | zero => intro H locs ls a0 x1 x2 σ hI hl h; rw [zf_TL_isLeft_2] at h; cases h
    | succ n ih =>
      intro H locs ls a0 x1 x2 σ hI hl h
      rw [zf_TL_isLeft_2] at h
      refine lv_iload_n hx hb zd_TL_isLeft_2 rfl (lv_at hl 2 rfl) ?_
      refine lv_iconst (v := nI 5) hx hb zd_TL_isLeft_3 (by decide) ?_
      refine lv_icmp_ge hx hb (tgt := 28) zd_TL_isLeft_4 (by decide) (fun c1 => ?_) (fun c1 => ?_)
      · replace h := zb_t c1 h
        refine lv_iconst (v := nI 0) hx hb zd_TL_isLeft_28 (by decide) ?_
        exact za_zret hx hb hr hlk hI (by decide) h (Nat.le_of_ble_eq_true rfl) (Nat.le_of_ble_eq_true rfl) zd_TL_isLeft_29
      · replace h := zb_f c1 h
        refine lv_aload_n hx hb zd_TL_isLeft_7 rfl (lv_at hl 0 rfl) ?_
        obtain ⟨b3, e2, h⟩ := zb_o h
        refine za_getr hx hb hts hown hK hI zl_TL_22 e2 zd_TL_isLeft_8 ?_
        refine lv_iload_n hx hb zd_TL_isLeft_11 rfl (lv_at hl 2 rfl) ?_
        obtain ⟨b4, e5, h⟩ := zb_o h
        refine za_aaln hx hb hK hI (t := 4) rfl e5 zd_TL_isLeft_12 ?_
        obtain ⟨v7, e6, h⟩ := zb_o h
        refine za_geti hx hb hts hown hK hI zl_TL_79 e6 zd_TL_isLeft_13 ?_
        refine lv_iload_n hx hb zd_TL_isLeft_16 rfl (lv_at hl 1 rfl) ?_
        refine lv_icmp_le hx hb (tgt := 22) zd_TL_isLeft_17 (by decide) (fun c8 => ?_) (fun c8 => ?_)
        · replace h := zb_t c8 h
          refine lv_iinc (k := 2) (v := (x2 + nI 1)) (lv' := [(2, .int (x2 + nI 1)), (0, .ref a0), (1, .int x1)]) hx hb zd_TL_isLeft_22 hl rfl rfl (Nat.le_of_ble_eq_true rfl) rfl (fun ls hl => ?_)
          refine lv_goto hx hb (tgt := 2) zd_TL_isLeft_25 (by decide) ?_
          exact ih _ _ ls a0 x1 (x2 + nI 1) σ hI (lv_sub hl [1, 2, 0] rfl) h
        · replace h := zb_f c8 h
          refine lv_iconst (v := nI 1) hx hb zd_TL_isLeft_20 (by decide) ?_
          exact za_zret hx hb hr hlk hI (by decide) h (Nat.le_of_ble_eq_true rfl) (Nat.le_of_ble_eq_true rfl) zd_TL_isLeft_21
  unfold zf_TL_isLeft at h
  refine lv_iconst (v := nI 0) hx hb zd_TL_isLeft_0 (by decide) ?_
  refine lv_istore_n (lv' := [(2, .int (nI 0)), (0, .ref ay0), (1, .int xy1)]) hx hb zd_TL_isLeft_1 rfl hl (Nat.le_of_ble_eq_true rfl) rfl (fun ls hl => ?_)
  exact B2 6 _ _ ls ay0 xy1 (nI 0) σ hI (lv_sub hl [1, 2, 0] rfl) h

def zf_TL_submit_101  (σ : za_h) : Option (Int32 × za_h) :=
  some ((nI 0), σ)

def zf_TL_submit_86 (a0 : Nat) (x1 : Int32) (x2 : Int32) (x3 : Int32) (x4 : Int32) (x5 : Int32) (x6 : Int32) (x7 : Int32) (xs0 : Int32) (σ : za_h) : Option (Int32 × za_h) :=
  if xs0 = 0 then
  (zf_TL_submit_101 σ)
  else
  ((zg_c σ a0 0).bind fun _ =>
  (zf_TL_isLeft a0 x1 σ).bind fun (r3, σ4) =>
  if r3 = 0 then
  ((zg_r σ4 a0 0 3).bind fun b8 =>
  (za_lq σ4 b8 6 ((x1 * (nI 3)) + x2)).bind fun w9 =>
  match w9 with
  | none => ((zg_r σ4 a0 0 3).bind fun b14 =>
  (zf_Transaction_init σ4.2 x3 x4 x5 x6 x7 (za_n σ4 (.inr (8, [.int 0, .int 0, .int 0, .int 0, .int 0])))).bind fun (_, σ16) =>
  (za_sq σ16 b14 6 8 ((x1 * (nI 3)) + x2) (some σ4.2)).bind fun σ18 =>
  some ((nI 1), σ18))
  | some u12 => (some ((nI 0), σ4)))
  else
  (zf_TL_submit_101 σ4))

def zf_TL_submit_85 (a0 : Nat) (x1 : Int32) (x2 : Int32) (x3 : Int32) (x4 : Int32) (x5 : Int32) (x6 : Int32) (x7 : Int32) (σ : za_h) : Option (Int32 × za_h) :=
  zf_TL_submit_86 a0 x1 x2 x3 x4 x5 x6 x7 (nI 0) σ

def zf_TL_submit_69 (a0 : Nat) (x1 : Int32) (x2 : Int32) (x3 : Int32) (x4 : Int32) (x5 : Int32) (x6 : Int32) (x7 : Int32) (σ : za_h) : Option (Int32 × za_h) :=
  (zf_TL_isWithin x7 (nI 1) (nI 1000) σ).bind fun (r1, σ2) =>
  if r1 = 0 then
  (zf_TL_submit_85 a0 x1 x2 x3 x4 x5 x6 x7 σ2)
  else
  (zf_TL_submit_86 a0 x1 x2 x3 x4 x5 x6 x7 (nI 1) σ2)

def zf_TL_submit (ay0 : Nat) (xy1 : Int32) (xy2 : Int32) (xy3 : Int32) (xy4 : Int32) (xy5 : Int32) (xy6 : Int32) (xy7 : Int32) (σ : za_h) : Option (Int32 × za_h) :=
  (zf_TL_isSlot xy1 σ).bind fun (r1, σ2) =>
  if r1 = 0 then
  (zf_TL_submit_85 ay0 xy1 xy2 xy3 xy4 xy5 xy6 xy7 σ2)
  else
  ((zf_TL_isWithin xy2 (nI 0) (nI 2) σ2).bind fun (r5, σ6) =>
  if r5 = 0 then
  (zf_TL_submit_85 ay0 xy1 xy2 xy3 xy4 xy5 xy6 xy7 σ6)
  else
  ((zf_TL_isWithin xy3 (nI 0) (nI 1) σ6).bind fun (r9, σ10) =>
  if r9 = 0 then
  (zf_TL_submit_85 ay0 xy1 xy2 xy3 xy4 xy5 xy6 xy7 σ10)
  else
  ((zf_TL_isAccount xy4 σ10).bind fun (r13, σ14) =>
  if r13 = 0 then
  (zf_TL_submit_85 ay0 xy1 xy2 xy3 xy4 xy5 xy6 xy7 σ14)
  else
  ((zf_TL_isWithin xy5 (nI 0) (nI 1) σ14).bind fun (r17, σ18) =>
  if r17 = 0 then
  (zf_TL_submit_85 ay0 xy1 xy2 xy3 xy4 xy5 xy6 xy7 σ18)
  else
  (if xy3 = 0 then
  ((zf_TL_isAccount xy6 σ18).bind fun (r26, σ27) =>
  if r26 = 0 then
  (zf_TL_submit_85 ay0 xy1 xy2 xy3 xy4 xy5 xy6 xy7 σ27)
  else
  (zf_TL_submit_69 ay0 xy1 xy2 xy3 xy4 xy5 xy6 xy7 σ27))
  else
  ((zf_TL_isWithin xy6 (nI 1) (nI 9) σ18).bind fun (r22, σ23) =>
  if r22 = 0 then
  (zf_TL_submit_85 ay0 xy1 xy2 xy3 xy4 xy5 xy6 xy7 σ23)
  else
  (zf_TL_submit_69 ay0 xy1 xy2 xy3 xy4 xy5 xy6 xy7 σ23)))))))
set_option maxRecDepth 100000 in
set_option maxHeartbeats 4000000 in
theorem zm_TL_submit {l : Launch} {D : va_G} {ca : Nat → ClassId} {n0 : Nat} {ay0 : Nat} {xy1 : Int32} {xy2 : Int32} {xy3 : Int32} {xy4 : Int32} {xy5 : Int32} {xy6 : Int32} {xy7 : Int32} {σ σ' : za_h} {r : Int32} (h : zf_TL_submit ay0 xy1 xy2 xy3 xy4 xy5 xy6 xy7 σ = some (r, σ')) : Met l zy_TL_submit (za_wy zy_TL_submit zc_TL_submit 10 (some .boolean)) { frames := 2, cells := 1, slots := 5, locals := 45 } (za_Pc D ca n0 [.ref ay0, .int xy1, .int xy2, .int xy3, .int xy4, .int xy5, .int xy6, .int xy7] σ) (za_Qi D ca n0 r σ') 1 5 (za_A n0) := by
  refine za_met (by decide) (Nat.le_of_ble_eq_true rfl) ?_
  intro p e s m below meth c ls hx hb hml hr hlk hts hown hnm hK hI hl
  replace hown : s.vm.findClass zR_TL = some m.cls := hown
  replace hl : lv_has ls 10 [(0, .ref ay0), (1, .int xy1), (2, .int xy2), (3, .int xy3), (4, .int xy4), (5, .int xy5), (6, .int xy6), (7, .int xy7)] := hl
  have B101 : ∀ (H : Heap) (locs : List Loc) (ls : Array Slot) (σ : za_h), za_I D ca n0 s σ H locs → lv_has ls 10 [] → zf_TL_submit_101 σ = some (r, σ') → W p l e ({ frames := 2, cells := 1, slots := 5, locals := 45 }) s m ([.ref ay0, .int xy1, .int xy2, .int xy3, .int xy4, .int xy5, .int xy6, .int xy7] : List Value).toArray below meth c H locs 0 0 (MQ below (za_Qi D ca n0 r σ') ([.ref ay0, .int xy1, .int xy2, .int xy3, .int xy4, .int xy5, .int xy6, .int xy7] : List Value).toArray s 1 5 (za_A n0)) (F0 m 101 ls []) := by
    intro H locs ls σ hI hl h
    unfold zf_TL_submit_101 at h
    refine lv_iconst (v := nI 0) hx hb zd_TL_submit_101 (by decide) ?_
    exact za_zret hx hb hr hlk hI (by decide) h (Nat.le_of_ble_eq_true rfl) (Nat.le_of_ble_eq_true rfl) zd_TL_submit_102
  have B86 : ∀ (H : Heap) (locs : List Loc) (ls : Array Slot) (a0 : Nat) (x1 : Int32) (x2 : Int32) (x3 : Int32) (x4 : Int32) (x5 : Int32) (x6 : Int32) (x7 : Int32) (xs0 : Int32) (σ : za_h), za_I D ca n0 s σ H locs → lv_has ls 10 [(0, .ref a0), (1, .int x1), (2, .int x2), (3, .int x3), (4, .int x4), (5, .int x5), (6, .int x6), (7, .int x7)] → zf_TL_submit_86 a0 x1 x2 x3 x4 x5 x6 x7 xs0 σ = some (r, σ') → W p l e ({ frames := 2, cells := 1, slots := 5, locals := 45 }) s m ([.ref ay0, .int xy1, .int xy2, .int xy3, .int xy4, .int xy5, .int xy6, .int xy7] : List Value).toArray below meth c H locs 0 0 (MQ below (za_Qi D ca n0 r σ') ([.ref ay0, .int xy1, .int xy2, .int xy3, .int xy4, .int xy5, .int xy6, .int xy7] : List Value).toArray s 1 5 (za_A n0)) (F0 m 86 ls [.int xs0]) := by
    intro H locs ls a0 x1 x2 x3 x4 x5 x6 x7 xs0 σ hI hl h
    unfold zf_TL_submit_86 at h
    refine lv_istore (lv' := [(8, .int xs0), (0, .ref a0), (1, .int x1), (2, .int x2), (3, .int x3), (4, .int x4), (5, .int x5), (6, .int x6), (7, .int x7)]) hx hb zd_TL_submit_86 hl (Nat.le_of_ble_eq_true rfl) rfl (fun ls hl => ?_)
    refine lv_iload hx hb zd_TL_submit_88 (lv_at hl 0 rfl) ?_
    refine lv_if_eq hx hb (tgt := 101) zd_TL_submit_90 (by decide) (fun c1 => ?_) (fun c1 => ?_)
    · replace h := zb_t c1 h
      exact B101 _ _ ls σ hI (lv_sub hl [] rfl) h
    · replace h := zb_f c1 h
      refine lv_aload_n hx hb zd_TL_submit_93 rfl (lv_at hl 1 rfl) ?_
      refine lv_iload_n hx hb zd_TL_submit_94 rfl (lv_at hl 2 rfl) ?_
      obtain ⟨_, g2, h⟩ := zb_o h
      obtain ⟨⟨r3, σ4⟩, e5, h⟩ := zb_o h
      refine za_calli (za_runV hx hb hml hown hts hK hI g2 (zm_TL_isLeft e5) zj_TL_66 ⟨rfl, rfl⟩ ⟨Nat.le_of_ble_eq_true rfl, Nat.le_of_ble_eq_true rfl⟩ rfl hl.1 rfl (Nat.le_of_ble_eq_true rfl) zd_TL_submit_95 ⟨Nat.le_of_ble_eq_true rfl, Nat.le_of_ble_eq_true rfl⟩) hI (fun H locs hI => ?_)
      refine lv_if_eq hx hb (tgt := 103) zd_TL_submit_98 (by decide) (fun c6 => ?_) (fun c6 => ?_)
      · replace h := zb_t c6 h
        refine lv_iload_n hx hb zd_TL_submit_103 rfl (lv_at hl 2 rfl) ?_
        refine lv_iconst (v := nI 3) hx hb zd_TL_submit_104 (by decide) ?_
        refine lv_imul hx hb zd_TL_submit_105 ?_
        refine lv_iload_n hx hb zd_TL_submit_106 rfl (lv_at hl 3 rfl) ?_
        refine lv_iadd hx hb zd_TL_submit_107 ?_
        refine lv_istore (lv' := [(9, .int ((x1 * (nI 3)) + x2)), (8, .int xs0), (0, .ref a0), (1, .int x1), (2, .int x2), (3, .int x3), (4, .int x4), (5, .int x5), (6, .int x6), (7, .int x7)]) hx hb zd_TL_submit_108 hl (Nat.le_of_ble_eq_true rfl) rfl (fun ls hl => ?_)
        refine lv_aload_n hx hb zd_TL_submit_110 rfl (lv_at hl 2 rfl) ?_
        obtain ⟨b8, e7, h⟩ := zb_o h
        refine za_getr hx hb hts hown hK hI zl_TL_31 e7 zd_TL_submit_111 ?_
        refine lv_iload hx hb zd_TL_submit_114 (lv_at hl 0 rfl) ?_
        obtain ⟨w9, e10, h⟩ := zb_o h
        refine za_aald hx hb hK hI (t := 6) rfl e10 zd_TL_submit_116 ?_
        refine za_ifnull hx hb (tgt := 122) zd_TL_submit_117 (by decide) (fun c11 => ?_) (fun u12 c11 => ?_)
        · subst c11
          refine lv_aload_n hx hb zd_TL_submit_122 rfl (lv_at hl 2 rfl) ?_
          obtain ⟨b14, e13, h⟩ := zb_o h
          refine za_getr hx hb hts hown hK hI zl_TL_31 e13 zd_TL_submit_123 ?_
          refine lv_iload hx hb zd_TL_submit_126 (lv_at hl 0 rfl) ?_
          refine za_new hx hb hts hown hK hI zw_TL_29 (Nat.le_of_ble_eq_true rfl) (Nat.le_of_ble_eq_true rfl) zd_TL_submit_128 (fun H hI => ?_)
          refine lv_dup hx hb zd_TL_submit_131 rfl ?_
          refine lv_iload_n hx hb zd_TL_submit_132 rfl (lv_at hl 5 rfl) ?_
          refine lv_iload hx hb zd_TL_submit_133 (lv_at hl 6 rfl) ?_
          refine lv_iload hx hb zd_TL_submit_135 (lv_at hl 7 rfl) ?_
          refine lv_iload hx hb zd_TL_submit_137 (lv_at hl 8 rfl) ?_
          refine lv_iload hx hb zd_TL_submit_139 (lv_at hl 9 rfl) ?_
          obtain ⟨⟨r15, σ16⟩, e17, h⟩ := zb_o h
          refine za_callv (za_runI hx hb hml hown hts hK hI (zm_Transaction_init e17) zj_TL_69 ⟨rfl, rfl⟩ ⟨Nat.le_of_ble_eq_true rfl, Nat.le_of_ble_eq_true rfl⟩ rfl hl.1 rfl (Nat.le_of_ble_eq_true rfl) zd_TL_submit_141 ⟨Nat.le_of_ble_eq_true rfl, Nat.le_of_ble_eq_true rfl⟩) hI (fun H locs hI => ?_)
          obtain ⟨σ18, e19, h⟩ := zb_o h
          refine za_aast (o := (some σ4.2)) hx hb hK hI (t := 6) (ci := 8) rfl ⟨_, _, rfl⟩ e19 zd_TL_submit_144 (fun H locs hI => ?_)
          refine lv_iconst (v := nI 1) hx hb zd_TL_submit_145 (by decide) ?_
          exact za_zret hx hb hr hlk hI (by decide) h (Nat.le_of_ble_eq_true rfl) (Nat.le_of_ble_eq_true rfl) zd_TL_submit_146
        · subst c11
          refine lv_iconst (v := nI 0) hx hb zd_TL_submit_120 (by decide) ?_
          exact za_zret hx hb hr hlk hI (by decide) h (Nat.le_of_ble_eq_true rfl) (Nat.le_of_ble_eq_true rfl) zd_TL_submit_121
      · replace h := zb_f c6 h
        exact B101 _ _ ls σ4 hI (lv_sub hl [] rfl) h
  have B85 : ∀ (H : Heap) (locs : List Loc) (ls : Array Slot) (a0 : Nat) (x1 : Int32) (x2 : Int32) (x3 : Int32) (x4 : Int32) (x5 : Int32) (x6 : Int32) (x7 : Int32) (σ : za_h), za_I D ca n0 s σ H locs → lv_has ls 10 [(0, .ref a0), (1, .int x1), (2, .int x2), (3, .int x3), (4, .int x4), (5, .int x5), (6, .int x6), (7, .int x7)] → zf_TL_submit_85 a0 x1 x2 x3 x4 x5 x6 x7 σ = some (r, σ') → W p l e ({ frames := 2, cells := 1, slots := 5, locals := 45 }) s m ([.ref ay0, .int xy1, .int xy2, .int xy3, .int xy4, .int xy5, .int xy6, .int xy7] : List Value).toArray below meth c H locs 0 0 (MQ below (za_Qi D ca n0 r σ') ([.ref ay0, .int xy1, .int xy2, .int xy3, .int xy4, .int xy5, .int xy6, .int xy7] : List Value).toArray s 1 5 (za_A n0)) (F0 m 85 ls []) := by
    intro H locs ls a0 x1 x2 x3 x4 x5 x6 x7 σ hI hl h
    unfold zf_TL_submit_85 at h
    refine lv_iconst (v := nI 0) hx hb zd_TL_submit_85 (by decide) ?_
    exact B86 _ _ ls a0 x1 x2 x3 x4 x5 x6 x7 (nI 0) σ hI (lv_sub hl [0, 1, 2, 3, 4, 5, 6, 7] rfl) h
  have B69 : ∀ (H : Heap) (locs : List Loc) (ls : Array Slot) (a0 : Nat) (x1 : Int32) (x2 : Int32) (x3 : Int32) (x4 : Int32) (x5 : Int32) (x6 : Int32) (x7 : Int32) (σ : za_h), za_I D ca n0 s σ H locs → lv_has ls 10 [(0, .ref a0), (1, .int x1), (2, .int x2), (3, .int x3), (4, .int x4), (5, .int x5), (6, .int x6), (7, .int x7)] → zf_TL_submit_69 a0 x1 x2 x3 x4 x5 x6 x7 σ = some (r, σ') → W p l e ({ frames := 2, cells := 1, slots := 5, locals := 45 }) s m ([.ref ay0, .int xy1, .int xy2, .int xy3, .int xy4, .int xy5, .int xy6, .int xy7] : List Value).toArray below meth c H locs 0 0 (MQ below (za_Qi D ca n0 r σ') ([.ref ay0, .int xy1, .int xy2, .int xy3, .int xy4, .int xy5, .int xy6, .int xy7] : List Value).toArray s 1 5 (za_A n0)) (F0 m 69 ls []) := by
    intro H locs ls a0 x1 x2 x3 x4 x5 x6 x7 σ hI hl h
    unfold zf_TL_submit_69 at h
    refine lv_iload hx hb zd_TL_submit_69 (lv_at hl 7 rfl) ?_
    refine lv_iconst (v := nI 1) hx hb zd_TL_submit_71 (by decide) ?_
    refine lv_sipush (v := nI 1000) hx hb zd_TL_submit_72 (by decide) ?_
    obtain ⟨⟨r1, σ2⟩, e3, h⟩ := zb_o h
    refine za_calli (za_runS hx hb hml hown hts hK hI (zm_TL_isWithin e3) zj_TL_41 ⟨rfl, rfl⟩ ⟨Nat.le_of_ble_eq_true rfl, Nat.le_of_ble_eq_true rfl⟩ rfl hl.1 rfl (Nat.le_of_ble_eq_true rfl) zd_TL_submit_75 ⟨Nat.le_of_ble_eq_true rfl, Nat.le_of_ble_eq_true rfl⟩) hI (fun H locs hI => ?_)
    refine lv_if_eq hx hb (tgt := 85) zd_TL_submit_78 (by decide) (fun c4 => ?_) (fun c4 => ?_)
    · replace h := zb_t c4 h
      exact B85 _ _ ls a0 x1 x2 x3 x4 x5 x6 x7 σ2 hI (lv_sub hl [0, 1, 2, 3, 4, 5, 6, 7] rfl) h
    · replace h := zb_f c4 h
      refine lv_iconst (v := nI 1) hx hb zd_TL_submit_81 (by decide) ?_
      refine lv_goto hx hb (tgt := 86) zd_TL_submit_82 (by decide) ?_
      exact B86 _ _ ls a0 x1 x2 x3 x4 x5 x6 x7 (nI 1) σ2 hI (lv_sub hl [0, 1, 2, 3, 4, 5, 6, 7] rfl) h
  unfold zf_TL_submit at h
  refine lv_iload_n hx hb zd_TL_submit_0 rfl (lv_at hl 1 rfl) ?_
  obtain ⟨⟨r1, σ2⟩, e3, h⟩ := zb_o h
  refine za_calli (za_runS hx hb hml hown hts hK hI (zm_TL_isSlot e3) zj_TL_59 ⟨rfl, rfl⟩ ⟨Nat.le_of_ble_eq_true rfl, Nat.le_of_ble_eq_true rfl⟩ rfl hl.1 rfl (Nat.le_of_ble_eq_true rfl) zd_TL_submit_1 ⟨Nat.le_of_ble_eq_true rfl, Nat.le_of_ble_eq_true rfl⟩) hI (fun H locs hI => ?_)
  refine lv_if_eq hx hb (tgt := 85) zd_TL_submit_4 (by decide) (fun c4 => ?_) (fun c4 => ?_)
  · replace h := zb_t c4 h
    exact B85 _ _ ls ay0 xy1 xy2 xy3 xy4 xy5 xy6 xy7 σ2 hI (lv_sub hl [0, 1, 2, 3, 4, 5, 6, 7] rfl) h
  · replace h := zb_f c4 h
    refine lv_iload_n hx hb zd_TL_submit_7 rfl (lv_at hl 2 rfl) ?_
    refine lv_iconst (v := nI 0) hx hb zd_TL_submit_8 (by decide) ?_
    refine lv_iconst (v := nI 2) hx hb zd_TL_submit_9 (by decide) ?_
    obtain ⟨⟨r5, σ6⟩, e7, h⟩ := zb_o h
    refine za_calli (za_runS hx hb hml hown hts hK hI (zm_TL_isWithin e7) zj_TL_41 ⟨rfl, rfl⟩ ⟨Nat.le_of_ble_eq_true rfl, Nat.le_of_ble_eq_true rfl⟩ rfl hl.1 rfl (Nat.le_of_ble_eq_true rfl) zd_TL_submit_10 ⟨Nat.le_of_ble_eq_true rfl, Nat.le_of_ble_eq_true rfl⟩) hI (fun H locs hI => ?_)
    refine lv_if_eq hx hb (tgt := 85) zd_TL_submit_13 (by decide) (fun c8 => ?_) (fun c8 => ?_)
    · replace h := zb_t c8 h
      exact B85 _ _ ls ay0 xy1 xy2 xy3 xy4 xy5 xy6 xy7 σ6 hI (lv_sub hl [0, 1, 2, 3, 4, 5, 6, 7] rfl) h
    · replace h := zb_f c8 h
      refine lv_iload_n hx hb zd_TL_submit_16 rfl (lv_at hl 3 rfl) ?_
      refine lv_iconst (v := nI 0) hx hb zd_TL_submit_17 (by decide) ?_
      refine lv_iconst (v := nI 1) hx hb zd_TL_submit_18 (by decide) ?_
      obtain ⟨⟨r9, σ10⟩, e11, h⟩ := zb_o h
      refine za_calli (za_runS hx hb hml hown hts hK hI (zm_TL_isWithin e11) zj_TL_41 ⟨rfl, rfl⟩ ⟨Nat.le_of_ble_eq_true rfl, Nat.le_of_ble_eq_true rfl⟩ rfl hl.1 rfl (Nat.le_of_ble_eq_true rfl) zd_TL_submit_19 ⟨Nat.le_of_ble_eq_true rfl, Nat.le_of_ble_eq_true rfl⟩) hI (fun H locs hI => ?_)
      refine lv_if_eq hx hb (tgt := 85) zd_TL_submit_22 (by decide) (fun c12 => ?_) (fun c12 => ?_)
      · replace h := zb_t c12 h
        exact B85 _ _ ls ay0 xy1 xy2 xy3 xy4 xy5 xy6 xy7 σ10 hI (lv_sub hl [0, 1, 2, 3, 4, 5, 6, 7] rfl) h
      · replace h := zb_f c12 h
        refine lv_iload hx hb zd_TL_submit_25 (lv_at hl 4 rfl) ?_
        obtain ⟨⟨r13, σ14⟩, e15, h⟩ := zb_o h
        refine za_calli (za_runS hx hb hml hown hts hK hI (zm_TL_isAccount e15) zj_TL_63 ⟨rfl, rfl⟩ ⟨Nat.le_of_ble_eq_true rfl, Nat.le_of_ble_eq_true rfl⟩ rfl hl.1 rfl (Nat.le_of_ble_eq_true rfl) zd_TL_submit_27 ⟨Nat.le_of_ble_eq_true rfl, Nat.le_of_ble_eq_true rfl⟩) hI (fun H locs hI => ?_)
        refine lv_if_eq hx hb (tgt := 85) zd_TL_submit_30 (by decide) (fun c16 => ?_) (fun c16 => ?_)
        · replace h := zb_t c16 h
          exact B85 _ _ ls ay0 xy1 xy2 xy3 xy4 xy5 xy6 xy7 σ14 hI (lv_sub hl [0, 1, 2, 3, 4, 5, 6, 7] rfl) h
        · replace h := zb_f c16 h
          refine lv_iload hx hb zd_TL_submit_33 (lv_at hl 5 rfl) ?_
          refine lv_iconst (v := nI 0) hx hb zd_TL_submit_35 (by decide) ?_
          refine lv_iconst (v := nI 1) hx hb zd_TL_submit_36 (by decide) ?_
          obtain ⟨⟨r17, σ18⟩, e19, h⟩ := zb_o h
          refine za_calli (za_runS hx hb hml hown hts hK hI (zm_TL_isWithin e19) zj_TL_41 ⟨rfl, rfl⟩ ⟨Nat.le_of_ble_eq_true rfl, Nat.le_of_ble_eq_true rfl⟩ rfl hl.1 rfl (Nat.le_of_ble_eq_true rfl) zd_TL_submit_37 ⟨Nat.le_of_ble_eq_true rfl, Nat.le_of_ble_eq_true rfl⟩) hI (fun H locs hI => ?_)
          refine lv_if_eq hx hb (tgt := 85) zd_TL_submit_40 (by decide) (fun c20 => ?_) (fun c20 => ?_)
          · replace h := zb_t c20 h
            exact B85 _ _ ls ay0 xy1 xy2 xy3 xy4 xy5 xy6 xy7 σ18 hI (lv_sub hl [0, 1, 2, 3, 4, 5, 6, 7] rfl) h
          · replace h := zb_f c20 h
            refine lv_iload_n hx hb zd_TL_submit_43 rfl (lv_at hl 3 rfl) ?_
            refine lv_if_ne hx hb (tgt := 58) zd_TL_submit_44 (by decide) (fun c21 => ?_) (fun c21 => ?_)
            · replace h := zb_f c21 h
              refine lv_iload hx hb zd_TL_submit_58 (lv_at hl 6 rfl) ?_
              refine lv_iconst (v := nI 1) hx hb zd_TL_submit_60 (by decide) ?_
              refine lv_bipush (v := nI 9) hx hb zd_TL_submit_61 (by decide) ?_
              obtain ⟨⟨r22, σ23⟩, e24, h⟩ := zb_o h
              refine za_calli (za_runS hx hb hml hown hts hK hI (zm_TL_isWithin e24) zj_TL_41 ⟨rfl, rfl⟩ ⟨Nat.le_of_ble_eq_true rfl, Nat.le_of_ble_eq_true rfl⟩ rfl hl.1 rfl (Nat.le_of_ble_eq_true rfl) zd_TL_submit_63 ⟨Nat.le_of_ble_eq_true rfl, Nat.le_of_ble_eq_true rfl⟩) hI (fun H locs hI => ?_)
              refine lv_if_eq hx hb (tgt := 85) zd_TL_submit_66 (by decide) (fun c25 => ?_) (fun c25 => ?_)
              · replace h := zb_t c25 h
                exact B85 _ _ ls ay0 xy1 xy2 xy3 xy4 xy5 xy6 xy7 σ23 hI (lv_sub hl [0, 1, 2, 3, 4, 5, 6, 7] rfl) h
              · replace h := zb_f c25 h
                exact B69 _ _ ls ay0 xy1 xy2 xy3 xy4 xy5 xy6 xy7 σ23 hI (lv_sub hl [0, 1, 2, 3, 4, 5, 6, 7] rfl) h
            · replace h := zb_t c21 h
              refine lv_iload hx hb zd_TL_submit_47 (lv_at hl 6 rfl) ?_
              obtain ⟨⟨r26, σ27⟩, e28, h⟩ := zb_o h
              refine za_calli (za_runS hx hb hml hown hts hK hI (zm_TL_isAccount e28) zj_TL_63 ⟨rfl, rfl⟩ ⟨Nat.le_of_ble_eq_true rfl, Nat.le_of_ble_eq_true rfl⟩ rfl hl.1 rfl (Nat.le_of_ble_eq_true rfl) zd_TL_submit_49 ⟨Nat.le_of_ble_eq_true rfl, Nat.le_of_ble_eq_true rfl⟩) hI (fun H locs hI => ?_)
              refine lv_if_eq hx hb (tgt := 85) zd_TL_submit_52 (by decide) (fun c29 => ?_) (fun c29 => ?_)
              · replace h := zb_t c29 h
                exact B85 _ _ ls ay0 xy1 xy2 xy3 xy4 xy5 xy6 xy7 σ27 hI (lv_sub hl [0, 1, 2, 3, 4, 5, 6, 7] rfl) h
              · replace h := zb_f c29 h
                refine lv_goto hx hb (tgt := 69) zd_TL_submit_55 (by decide) ?_
                exact B69 _ _ ls ay0 xy1 xy2 xy3 xy4 xy5 xy6 xy7 σ27 hI (lv_sub hl [0, 1, 2, 3, 4, 5, 6, 7] rfl) h

def zf_TL_isGood_25 (xs0 : Int32) (σ : za_h) : Option (Int32 × za_h) :=
  if xs0 = 0 ∨ xs0 = 1 then some (xs0, σ) else none

def zf_TL_isGood_24  (σ : za_h) : Option (Int32 × za_h) :=
  zf_TL_isGood_25 (nI 0) σ

def zf_TL_isGood (ay0 : Nat) (xy1 : Int32) (σ : za_h) : Option (Int32 × za_h) :=
  (zf_TL_isWithin xy1 (nI 0) (nI 4) σ).bind fun (r1, σ2) =>
  if r1 = 0 then
  (zf_TL_isGood_24 σ2)
  else
  ((zg_i σ2 ay0 0 0).bind fun v6 =>
  (zf_TL_has v6 xy1 σ2).bind fun (r7, σ8) =>
  if r7 = 0 then
  (zf_TL_isGood_25 (nI 1) σ8)
  else
  (zf_TL_isGood_24 σ8))
set_option maxRecDepth 100000 in
set_option maxHeartbeats 4000000 in
theorem zm_TL_isGood {l : Launch} {D : va_G} {ca : Nat → ClassId} {n0 : Nat} {ay0 : Nat} {xy1 : Int32} {σ σ' : za_h} {r : Int32} (h : zf_TL_isGood ay0 xy1 σ = some (r, σ')) : Met l zy_TL_isGood (za_wy zy_TL_isGood zc_TL_isGood 2 (some .boolean)) { frames := 1, cells := 0, slots := 0, locals := 22 } (za_Pc D ca n0 [.ref ay0, .int xy1] σ) (za_Qi D ca n0 r σ') 0 0 (za_A n0) := by
  refine za_met (by decide) (Nat.le_of_ble_eq_true rfl) ?_
  intro p e s m below meth c ls hx hb hml hr hlk hts hown hnm hK hI hl
  replace hown : s.vm.findClass zR_TL = some m.cls := hown
  replace hl : lv_has ls 2 [(0, .ref ay0), (1, .int xy1)] := hl
  have B25 : ∀ (H : Heap) (locs : List Loc) (ls : Array Slot) (xs0 : Int32) (σ : za_h), za_I D ca n0 s σ H locs → lv_has ls 2 [] → zf_TL_isGood_25 xs0 σ = some (r, σ') → W p l e ({ frames := 1, cells := 0, slots := 0, locals := 22 }) s m ([.ref ay0, .int xy1] : List Value).toArray below meth c H locs 0 0 (MQ below (za_Qi D ca n0 r σ') ([.ref ay0, .int xy1] : List Value).toArray s 0 0 (za_A n0)) (F0 m 25 ls [.int xs0]) := by
    intro H locs ls xs0 σ hI hl h
    unfold zf_TL_isGood_25 at h
    obtain ⟨g1, h⟩ := zb_g h
    exact za_zret hx hb hr hlk hI g1 h (Nat.le_of_ble_eq_true rfl) (Nat.le_of_ble_eq_true rfl) zd_TL_isGood_25
  have B24 : ∀ (H : Heap) (locs : List Loc) (ls : Array Slot) (σ : za_h), za_I D ca n0 s σ H locs → lv_has ls 2 [] → zf_TL_isGood_24 σ = some (r, σ') → W p l e ({ frames := 1, cells := 0, slots := 0, locals := 22 }) s m ([.ref ay0, .int xy1] : List Value).toArray below meth c H locs 0 0 (MQ below (za_Qi D ca n0 r σ') ([.ref ay0, .int xy1] : List Value).toArray s 0 0 (za_A n0)) (F0 m 24 ls []) := by
    intro H locs ls σ hI hl h
    unfold zf_TL_isGood_24 at h
    refine lv_iconst (v := nI 0) hx hb zd_TL_isGood_24 (by decide) ?_
    exact B25 _ _ ls (nI 0) σ hI (lv_sub hl [] rfl) h
  unfold zf_TL_isGood at h
  refine lv_iload_n hx hb zd_TL_isGood_0 rfl (lv_at hl 1 rfl) ?_
  refine lv_iconst (v := nI 0) hx hb zd_TL_isGood_1 (by decide) ?_
  refine lv_iconst (v := nI 4) hx hb zd_TL_isGood_2 (by decide) ?_
  obtain ⟨⟨r1, σ2⟩, e3, h⟩ := zb_o h
  refine za_calli (za_runS hx hb hml hown hts hK hI (zm_TL_isWithin e3) zj_TL_41 ⟨rfl, rfl⟩ ⟨Nat.le_of_ble_eq_true rfl, Nat.le_of_ble_eq_true rfl⟩ rfl hl.1 rfl (Nat.le_of_ble_eq_true rfl) zd_TL_isGood_3 ⟨Nat.le_of_ble_eq_true rfl, Nat.le_of_ble_eq_true rfl⟩) hI (fun H locs hI => ?_)
  refine lv_if_eq hx hb (tgt := 24) zd_TL_isGood_6 (by decide) (fun c4 => ?_) (fun c4 => ?_)
  · replace h := zb_t c4 h
    exact B24 _ _ ls σ2 hI (lv_sub hl [] rfl) h
  · replace h := zb_f c4 h
    refine lv_aload_n hx hb zd_TL_isGood_9 rfl (lv_at hl 0 rfl) ?_
    obtain ⟨v6, e5, h⟩ := zb_o h
    refine za_geti hx hb hts hown hK hI zl_TL_9 e5 zd_TL_isGood_10 ?_
    refine lv_iload_n hx hb zd_TL_isGood_13 rfl (lv_at hl 1 rfl) ?_
    obtain ⟨⟨r7, σ8⟩, e9, h⟩ := zb_o h
    refine za_calli (za_runS hx hb hml hown hts hK hI (zm_TL_has e9) zj_TL_135 ⟨rfl, rfl⟩ ⟨Nat.le_of_ble_eq_true rfl, Nat.le_of_ble_eq_true rfl⟩ rfl hl.1 rfl (Nat.le_of_ble_eq_true rfl) zd_TL_isGood_14 ⟨Nat.le_of_ble_eq_true rfl, Nat.le_of_ble_eq_true rfl⟩) hI (fun H locs hI => ?_)
    refine lv_if_ne hx hb (tgt := 24) zd_TL_isGood_17 (by decide) (fun c10 => ?_) (fun c10 => ?_)
    · replace h := zb_f c10 h
      exact B24 _ _ ls σ8 hI (lv_sub hl [] rfl) h
    · replace h := zb_t c10 h
      refine lv_iconst (v := nI 1) hx hb zd_TL_isGood_20 (by decide) ?_
      refine lv_goto hx hb (tgt := 25) zd_TL_isGood_21 (by decide) ?_
      exact B25 _ _ ls (nI 1) σ8 hI (lv_sub hl [] rfl) h

def zf_TL_isAtWork_28 (xs0 : Int32) (σ : za_h) : Option (Int32 × za_h) :=
  if xs0 = 0 ∨ xs0 = 1 then some (xs0, σ) else none

def zf_TL_isAtWork_27  (σ : za_h) : Option (Int32 × za_h) :=
  zf_TL_isAtWork_28 (nI 0) σ

def zf_TL_isAtWork (ay0 : Nat) (xy1 : Int32) (σ : za_h) : Option (Int32 × za_h) :=
  (zg_c σ ay0 0).bind fun _ =>
  (zf_TL_isGood ay0 xy1 σ).bind fun (r2, σ3) =>
  if r2 = 0 then
  (zf_TL_isAtWork_27 σ3)
  else
  ((zg_r σ3 ay0 0 2).bind fun b7 =>
  (za_ln σ3 b7 4 xy1).bind fun b8 =>
  (zg_i σ3 b8 4 2).bind fun v11 =>
  (zf_TL_isSlot v11 σ3).bind fun (r12, σ13) =>
  if r12 = 0 then
  (zf_TL_isAtWork_27 σ13)
  else
  (zf_TL_isAtWork_28 (nI 1) σ13))
set_option maxRecDepth 100000 in
set_option maxHeartbeats 4000000 in
theorem zm_TL_isAtWork {l : Launch} {D : va_G} {ca : Nat → ClassId} {n0 : Nat} {ay0 : Nat} {xy1 : Int32} {σ σ' : za_h} {r : Int32} (h : zf_TL_isAtWork ay0 xy1 σ = some (r, σ')) : Met l zy_TL_isAtWork (za_wy zy_TL_isAtWork zc_TL_isAtWork 2 (some .boolean)) { frames := 2, cells := 0, slots := 0, locals := 43 } (za_Pc D ca n0 [.ref ay0, .int xy1] σ) (za_Qi D ca n0 r σ') 0 0 (za_A n0) := by
  refine za_met (by decide) (Nat.le_of_ble_eq_true rfl) ?_
  intro p e s m below meth c ls hx hb hml hr hlk hts hown hnm hK hI hl
  replace hown : s.vm.findClass zR_TL = some m.cls := hown
  replace hl : lv_has ls 2 [(0, .ref ay0), (1, .int xy1)] := hl
  have B28 : ∀ (H : Heap) (locs : List Loc) (ls : Array Slot) (xs0 : Int32) (σ : za_h), za_I D ca n0 s σ H locs → lv_has ls 2 [] → zf_TL_isAtWork_28 xs0 σ = some (r, σ') → W p l e ({ frames := 2, cells := 0, slots := 0, locals := 43 }) s m ([.ref ay0, .int xy1] : List Value).toArray below meth c H locs 0 0 (MQ below (za_Qi D ca n0 r σ') ([.ref ay0, .int xy1] : List Value).toArray s 0 0 (za_A n0)) (F0 m 28 ls [.int xs0]) := by
    intro H locs ls xs0 σ hI hl h
    unfold zf_TL_isAtWork_28 at h
    obtain ⟨g1, h⟩ := zb_g h
    exact za_zret hx hb hr hlk hI g1 h (Nat.le_of_ble_eq_true rfl) (Nat.le_of_ble_eq_true rfl) zd_TL_isAtWork_28
  have B27 : ∀ (H : Heap) (locs : List Loc) (ls : Array Slot) (σ : za_h), za_I D ca n0 s σ H locs → lv_has ls 2 [] → zf_TL_isAtWork_27 σ = some (r, σ') → W p l e ({ frames := 2, cells := 0, slots := 0, locals := 43 }) s m ([.ref ay0, .int xy1] : List Value).toArray below meth c H locs 0 0 (MQ below (za_Qi D ca n0 r σ') ([.ref ay0, .int xy1] : List Value).toArray s 0 0 (za_A n0)) (F0 m 27 ls []) := by
    intro H locs ls σ hI hl h
    unfold zf_TL_isAtWork_27 at h
    refine lv_iconst (v := nI 0) hx hb zd_TL_isAtWork_27 (by decide) ?_
    exact B28 _ _ ls (nI 0) σ hI (lv_sub hl [] rfl) h
  unfold zf_TL_isAtWork at h
  refine lv_aload_n hx hb zd_TL_isAtWork_0 rfl (lv_at hl 0 rfl) ?_
  refine lv_iload_n hx hb zd_TL_isAtWork_1 rfl (lv_at hl 1 rfl) ?_
  obtain ⟨_, g1, h⟩ := zb_o h
  obtain ⟨⟨r2, σ3⟩, e4, h⟩ := zb_o h
  refine za_calli (za_runV hx hb hml hown hts hK hI g1 (zm_TL_isGood e4) zj_TL_107 ⟨rfl, rfl⟩ ⟨Nat.le_of_ble_eq_true rfl, Nat.le_of_ble_eq_true rfl⟩ rfl hl.1 rfl (Nat.le_of_ble_eq_true rfl) zd_TL_isAtWork_2 ⟨Nat.le_of_ble_eq_true rfl, Nat.le_of_ble_eq_true rfl⟩) hI (fun H locs hI => ?_)
  refine lv_if_eq hx hb (tgt := 27) zd_TL_isAtWork_5 (by decide) (fun c5 => ?_) (fun c5 => ?_)
  · replace h := zb_t c5 h
    exact B27 _ _ ls σ3 hI (lv_sub hl [] rfl) h
  · replace h := zb_f c5 h
    refine lv_aload_n hx hb zd_TL_isAtWork_8 rfl (lv_at hl 0 rfl) ?_
    obtain ⟨b7, e6, h⟩ := zb_o h
    refine za_getr hx hb hts hown hK hI zl_TL_22 e6 zd_TL_isAtWork_9 ?_
    refine lv_iload_n hx hb zd_TL_isAtWork_12 rfl (lv_at hl 1 rfl) ?_
    obtain ⟨b8, e9, h⟩ := zb_o h
    refine za_aaln hx hb hK hI (t := 4) rfl e9 zd_TL_isAtWork_13 ?_
    obtain ⟨v11, e10, h⟩ := zb_o h
    refine za_geti hx hb hts hown hK hI zl_TL_79 e10 zd_TL_isAtWork_14 ?_
    obtain ⟨⟨r12, σ13⟩, e14, h⟩ := zb_o h
    refine za_calli (za_runS hx hb hml hown hts hK hI (zm_TL_isSlot e14) zj_TL_59 ⟨rfl, rfl⟩ ⟨Nat.le_of_ble_eq_true rfl, Nat.le_of_ble_eq_true rfl⟩ rfl hl.1 rfl (Nat.le_of_ble_eq_true rfl) zd_TL_isAtWork_17 ⟨Nat.le_of_ble_eq_true rfl, Nat.le_of_ble_eq_true rfl⟩) hI (fun H locs hI => ?_)
    refine lv_if_eq hx hb (tgt := 27) zd_TL_isAtWork_20 (by decide) (fun c15 => ?_) (fun c15 => ?_)
    · replace h := zb_t c15 h
      exact B27 _ _ ls σ13 hI (lv_sub hl [] rfl) h
    · replace h := zb_f c15 h
      refine lv_iconst (v := nI 1) hx hb zd_TL_isAtWork_23 (by decide) ?_
      refine lv_goto hx hb (tgt := 28) zd_TL_isAtWork_24 (by decide) ?_
      exact B28 _ _ ls (nI 1) σ13 hI (lv_sub hl [] rfl) h

def zf_TL_closeSlot_49 (k7 : Nat → Nat → Int32 → Int32 → za_h → Option (Unit × za_h)) (a0 : Nat) (a1 : Nat) (x2 : Int32) (x3 : Int32) (σ : za_h) : Option (Unit × za_h) :=
  k7 a0 a1 x2 (x3 + nI 1) σ

def zf_TL_closeSlot_7 : Nat → Nat → Nat → Int32 → Int32 → za_h → Option (Unit × za_h)
  | 0, _, _, _, _, _ => none
  | n + 1, a0, a1, x2, x3, σ =>
  if (nI 3) ≤ x3 then
  ((zg_i σ a1 4 3).bind fun v3 =>
  (zg_i σ a1 4 2).bind fun v5 =>
  (zp_f σ a1 4 3 (.int (((nI 31) * (((nI 31) * v3) + v5)) + x2))).bind fun σ7 =>
  (zg_i σ7 a1 4 2).bind fun v9 =>
  (zp_f σ7 a1 4 2 (.int (v9 + (nI 1)))).bind fun σ11 =>
  some ((), σ11))
  else
  ((zg_r σ a0 0 3).bind fun b13 =>
  (zg_i σ a1 4 2).bind fun v15 =>
  (za_lq σ b13 6 ((v15 * (nI 3)) + x3)).bind fun w16 =>
  (zf_TL_has x2 x3 σ).bind fun (r18, σ19) =>
  if r18 = 0 then
  (zf_TL_closeSlot_49 (zf_TL_closeSlot_7 n) a0 a1 x2 x3 σ19)
  else
  (match w16 with
  | none => (zf_TL_closeSlot_49 (zf_TL_closeSlot_7 n) a0 a1 x2 x3 σ19)
  | some u23 => ((zg_r σ19 a1 4 1).bind fun b25 =>
  (zg_c σ19 b25 3).bind fun _ =>
  (zf_Ledger_carryOut b25 u23 σ19).bind fun (_, σ28) =>
  zf_TL_closeSlot_49 (zf_TL_closeSlot_7 n) a0 a1 x2 x3 σ28)))

def zf_TL_closeSlot (ay0 : Nat) (ay1 : Nat) (xy2 : Int32) (σ : za_h) : Option (Unit × za_h) :=
  if xy2 = 0 then
  (some ((), σ))
  else
  (zf_TL_closeSlot_7 4 ay0 ay1 xy2 (nI 0) σ)
set_option maxRecDepth 100000 in
set_option maxHeartbeats 4000000 in
theorem zm_TL_closeSlot {l : Launch} {D : va_G} {ca : Nat → ClassId} {n0 : Nat} {ay0 : Nat} {ay1 : Nat} {xy2 : Int32} {σ σ' : za_h} {r : Unit} (h : zf_TL_closeSlot ay0 ay1 xy2 σ = some (r, σ')) : Met l zy_TL_closeSlot (za_wy zy_TL_closeSlot zc_TL_closeSlot 5 none) { frames := 5, cells := 4, slots := 16, locals := 113 } (za_Pc D ca n0 [.ref ay0, .ref ay1, .int xy2] σ) (za_Qv D ca n0 r σ') 4 16 (za_A n0) := by
  refine za_met (by decide) (Nat.le_of_ble_eq_true rfl) ?_
  intro p e s m below meth c ls hx hb hml hr hlk hts hown hnm hK hI hl
  replace hown : s.vm.findClass zR_TL = some m.cls := hown
  replace hl : lv_has ls 5 [(0, .ref ay0), (1, .ref ay1), (2, .int xy2)] := hl
  have B49 : ∀ n : Nat, ∀ (k7 : Nat → Nat → Int32 → Int32 → za_h → Option (Unit × za_h)), (∀ (H : Heap) (locs : List Loc) (cells slots : Nat) (_ : cells + n * 1 ≤ 4) (_ : slots + n * 4 ≤ 16) (ls : Array Slot) (a0 : Nat) (a1 : Nat) (x2 : Int32) (x3 : Int32) (σ : za_h), za_I D ca n0 s σ H locs → lv_has ls 5 [(0, .ref a0), (1, .ref a1), (2, .int x2), (3, .int x3)] → k7 a0 a1 x2 x3 σ = some (r, σ') → W p l e ({ frames := 5, cells := 4, slots := 16, locals := 113 }) s m ([.ref ay0, .ref ay1, .int xy2] : List Value).toArray below meth c H locs cells slots (MQ below (za_Qv D ca n0 r σ') ([.ref ay0, .ref ay1, .int xy2] : List Value).toArray s 4 16 (za_A n0)) (F0 m 7 ls [])) → ∀ (H : Heap) (locs : List Loc) (cells slots : Nat) (_ : cells + (n + 1) * 1 ≤ 5) (_ : slots + (n + 1) * 4 ≤ 20) (ls : Array Slot) (a0 : Nat) (a1 : Nat) (x2 : Int32) (x3 : Int32) (σ : za_h), za_I D ca n0 s σ H locs → lv_has ls 5 [(0, .ref a0), (1, .ref a1), (2, .int x2), (3, .int x3)] → zf_TL_closeSlot_49 k7 a0 a1 x2 x3 σ = some (r, σ') → W p l e ({ frames := 5, cells := 4, slots := 16, locals := 113 }) s m ([.ref ay0, .ref ay1, .int xy2] : List Value).toArray below meth c H locs cells slots (MQ below (za_Qv D ca n0 r σ') ([.ref ay0, .ref ay1, .int xy2] : List Value).toArray s 4 16 (za_A n0)) (F0 m 49 ls []) := by
    intro n k7 hk7 H locs cells slots hcl hsl ls a0 a1 x2 x3 σ hI hl h
    unfold zf_TL_closeSlot_49 at h
    refine lv_iinc (k := 3) (v := (x3 + nI 1)) (lv' := [(3, .int (x3 + nI 1)), (0, .ref a0), (1, .ref a1), (2, .int x2)]) hx hb zd_TL_closeSlot_49 hl rfl rfl (Nat.le_of_ble_eq_true rfl) rfl (fun ls hl => ?_)
    refine lv_goto hx hb (tgt := 7) zd_TL_closeSlot_52 (by decide) ?_
    exact hk7 _ _ _ _ (by omega) (by omega) ls a0 a1 x2 (x3 + nI 1) σ hI (lv_sub hl [1, 2, 3, 0] rfl) h
  have B7 : ∀ n : Nat, ∀ (H : Heap) (locs : List Loc) (cells slots : Nat) (_ : cells + n * 1 ≤ 4) (_ : slots + n * 4 ≤ 16) (ls : Array Slot) (a0 : Nat) (a1 : Nat) (x2 : Int32) (x3 : Int32) (σ : za_h), za_I D ca n0 s σ H locs → lv_has ls 5 [(0, .ref a0), (1, .ref a1), (2, .int x2), (3, .int x3)] → zf_TL_closeSlot_7 n a0 a1 x2 x3 σ = some (r, σ') → W p l e ({ frames := 5, cells := 4, slots := 16, locals := 113 }) s m ([.ref ay0, .ref ay1, .int xy2] : List Value).toArray below meth c H locs cells slots (MQ below (za_Qv D ca n0 r σ') ([.ref ay0, .ref ay1, .int xy2] : List Value).toArray s 4 16 (za_A n0)) (F0 m 7 ls []) := by
    intro n
    induction n with
    | zero => intro H locs cells slots hcl hsl ls a0 a1 x2 x3 σ hI hl h; rw [zf_TL_closeSlot_7] at h; cases h
    | succ n ih =>
      intro H locs cells slots hcl hsl ls a0 a1 x2 x3 σ hI hl h
      rw [zf_TL_closeSlot_7] at h
      refine lv_iload_n hx hb zd_TL_closeSlot_7 rfl (lv_at hl 3 rfl) ?_
      refine lv_iconst (v := nI 3) hx hb zd_TL_closeSlot_8 (by decide) ?_
      refine lv_icmp_ge hx hb (tgt := 55) zd_TL_closeSlot_9 (by decide) (fun c1 => ?_) (fun c1 => ?_)
      · replace h := zb_t c1 h
        refine lv_aload_n hx hb zd_TL_closeSlot_55 rfl (lv_at hl 1 rfl) ?_
        refine lv_bipush (v := nI 31) hx hb zd_TL_closeSlot_56 (by decide) ?_
        refine lv_bipush (v := nI 31) hx hb zd_TL_closeSlot_58 (by decide) ?_
        refine lv_aload_n hx hb zd_TL_closeSlot_60 rfl (lv_at hl 1 rfl) ?_
        obtain ⟨v3, e2, h⟩ := zb_o h
        refine za_geti hx hb hts hown hK hI zl_TL_161 e2 zd_TL_closeSlot_61 ?_
        refine lv_imul hx hb zd_TL_closeSlot_64 ?_
        refine lv_aload_n hx hb zd_TL_closeSlot_65 rfl (lv_at hl 1 rfl) ?_
        obtain ⟨v5, e4, h⟩ := zb_o h
        refine za_geti hx hb hts hown hK hI zl_TL_79 e4 zd_TL_closeSlot_66 ?_
        refine lv_iadd hx hb zd_TL_closeSlot_69 ?_
        refine lv_imul hx hb zd_TL_closeSlot_70 ?_
        refine lv_iload_n hx hb zd_TL_closeSlot_71 rfl (lv_at hl 2 rfl) ?_
        refine lv_iadd hx hb zd_TL_closeSlot_72 ?_
        obtain ⟨σ7, e6, h⟩ := zb_o h
        refine za_put hx hb hts hown hK hI zl_TL_161 e6 rfl rfl zd_TL_closeSlot_73 (fun H locs hI => ?_)
        refine lv_aload_n hx hb zd_TL_closeSlot_76 rfl (lv_at hl 1 rfl) ?_
        refine lv_dup hx hb zd_TL_closeSlot_77 rfl ?_
        obtain ⟨v9, e8, h⟩ := zb_o h
        refine za_geti hx hb hts hown hK hI zl_TL_79 e8 zd_TL_closeSlot_78 ?_
        refine lv_iconst (v := nI 1) hx hb zd_TL_closeSlot_81 (by decide) ?_
        refine lv_iadd hx hb zd_TL_closeSlot_82 ?_
        obtain ⟨σ11, e10, h⟩ := zb_o h
        refine za_put hx hb hts hown hK hI zl_TL_79 e10 rfl rfl zd_TL_closeSlot_83 (fun H locs hI => ?_)
        exact za_vret hx hb hr hlk hI h (by omega) (by omega) zd_TL_closeSlot_86
      · replace h := zb_f c1 h
        refine lv_aload_n hx hb zd_TL_closeSlot_12 rfl (lv_at hl 0 rfl) ?_
        obtain ⟨b13, e12, h⟩ := zb_o h
        refine za_getr hx hb hts hown hK hI zl_TL_31 e12 zd_TL_closeSlot_13 ?_
        refine lv_aload_n hx hb zd_TL_closeSlot_16 rfl (lv_at hl 1 rfl) ?_
        obtain ⟨v15, e14, h⟩ := zb_o h
        refine za_geti hx hb hts hown hK hI zl_TL_79 e14 zd_TL_closeSlot_17 ?_
        refine lv_iconst (v := nI 3) hx hb zd_TL_closeSlot_20 (by decide) ?_
        refine lv_imul hx hb zd_TL_closeSlot_21 ?_
        refine lv_iload_n hx hb zd_TL_closeSlot_22 rfl (lv_at hl 3 rfl) ?_
        refine lv_iadd hx hb zd_TL_closeSlot_23 ?_
        obtain ⟨w16, e17, h⟩ := zb_o h
        refine za_aald hx hb hK hI (t := 6) rfl e17 zd_TL_closeSlot_24 ?_
        refine za_astore (lv' := [(4, va_rf w16), (0, .ref a0), (1, .ref a1), (2, .int x2), (3, .int x3)]) hx hb zd_TL_closeSlot_25 hl (Nat.le_of_ble_eq_true rfl) rfl (fun ls hl => ?_)
        refine lv_iload_n hx hb zd_TL_closeSlot_27 rfl (lv_at hl 3 rfl) ?_
        refine lv_iload_n hx hb zd_TL_closeSlot_28 rfl (lv_at hl 4 rfl) ?_
        obtain ⟨⟨r18, σ19⟩, e20, h⟩ := zb_o h
        refine za_calli (za_runS hx hb hml hown hts hK hI (zm_TL_has e20) zj_TL_135 ⟨rfl, rfl⟩ ⟨Nat.le_of_ble_eq_true rfl, Nat.le_of_ble_eq_true rfl⟩ rfl hl.1 rfl (Nat.le_of_ble_eq_true rfl) zd_TL_closeSlot_29 ⟨by show _ + _ ≤ 4; omega, by show _ + _ ≤ 16; omega⟩) hI (fun H locs hI => ?_)
        refine lv_if_eq hx hb (tgt := 49) zd_TL_closeSlot_32 (by decide) (fun c21 => ?_) (fun c21 => ?_)
        · replace h := zb_t c21 h
          exact B49 n _ ih _ _ _ _ (by omega) (by omega) ls a0 a1 x2 x3 σ19 hI (lv_sub hl [1, 2, 3, 4] rfl) h
        · replace h := zb_f c21 h
          refine za_aload hx hb zd_TL_closeSlot_35 (lv_at hl 0 rfl) ?_
          refine za_ifnull hx hb (tgt := 49) zd_TL_closeSlot_37 (by decide) (fun c22 => ?_) (fun u23 c22 => ?_)
          · subst c22
            exact B49 n _ ih _ _ _ _ (by omega) (by omega) ls a0 a1 x2 x3 σ19 hI (lv_sub hl [1, 2, 3, 4] rfl) h
          · subst c22
            refine lv_aload_n hx hb zd_TL_closeSlot_40 rfl (lv_at hl 2 rfl) ?_
            obtain ⟨b25, e24, h⟩ := zb_o h
            refine za_getr hx hb hts hown hK hI zl_TL_164 e24 zd_TL_closeSlot_41 ?_
            refine lv_aload hx hb zd_TL_closeSlot_44 (lv_at hl 0 rfl) ?_
            obtain ⟨_, g26, h⟩ := zb_o h
            obtain ⟨⟨r27, σ28⟩, e29, h⟩ := zb_o h
            refine za_callv (za_runV hx hb hml hown hts hK hI g26 (zm_Ledger_carryOut e29) zj_TL_196 ⟨rfl, rfl⟩ ⟨Nat.le_of_ble_eq_true rfl, Nat.le_of_ble_eq_true rfl⟩ rfl hl.1 rfl (Nat.le_of_ble_eq_true rfl) zd_TL_closeSlot_46 ⟨by show _ + _ ≤ 4; omega, by show _ + _ ≤ 16; omega⟩) hI (fun H locs hI => ?_)
            exact B49 n _ ih _ _ _ _ (by omega) (by omega) ls a0 a1 x2 x3 σ28 hI (lv_sub hl [1, 2, 3, 4] rfl) h
  unfold zf_TL_closeSlot at h
  refine lv_iload_n hx hb zd_TL_closeSlot_0 rfl (lv_at hl 2 rfl) ?_
  refine lv_if_ne hx hb (tgt := 5) zd_TL_closeSlot_1 (by decide) (fun c1 => ?_) (fun c1 => ?_)
  · replace h := zb_f c1 h
    refine lv_iconst (v := nI 0) hx hb zd_TL_closeSlot_5 (by decide) ?_
    refine lv_istore_n (lv' := [(3, .int (nI 0)), (0, .ref ay0), (1, .ref ay1), (2, .int xy2)]) hx hb zd_TL_closeSlot_6 rfl hl (Nat.le_of_ble_eq_true rfl) rfl (fun ls hl => ?_)
    exact B7 4 _ _ _ _ (by omega) (by omega) ls ay0 ay1 xy2 (nI 0) σ hI (lv_sub hl [1, 2, 3, 0] rfl) h
  · replace h := zb_t c1 h
    exact za_vret hx hb hr hlk hI h (Nat.le_of_ble_eq_true rfl) (Nat.le_of_ble_eq_true rfl) zd_TL_closeSlot_4

def zf_TL_propose_18  (σ : za_h) : Option (Int32 × za_h) :=
  some ((nI 0), σ)

def zf_TL_propose (ay0 : Nat) (xy1 : Int32) (xy2 : Int32) (σ : za_h) : Option (Int32 × za_h) :=
  (zg_c σ ay0 0).bind fun _ =>
  (zf_TL_isAtWork ay0 xy1 σ).bind fun (r2, σ3) =>
  if r2 = 0 then
  (zf_TL_propose_18 σ3)
  else
  ((zf_TL_isWithin xy2 (nI 1) (nI 7) σ3).bind fun (r6, σ7) =>
  if r6 = 0 then
  (zf_TL_propose_18 σ7)
  else
  ((zg_r σ7 ay0 0 2).bind fun b11 =>
  (za_ln σ7 b11 4 xy1).bind fun b12 =>
  (zg_r σ7 b12 4 0).bind fun b15 =>
  (zg_r σ7 ay0 0 2).bind fun b17 =>
  (za_ln σ7 b17 4 xy1).bind fun b18 =>
  (zg_i σ7 b18 4 2).bind fun v21 =>
  (za_ln σ7 b15 2 v21).bind fun b22 =>
  (zg_i σ7 b22 1 6).bind fun v25 =>
  if v25 = 0 then
  ((zp_f σ7 ay0 0 6 (.int (nI 1))).bind fun σ28 =>
  (zg_c σ28 b22 1).bind fun _ =>
  (zf_Agreement_takeProposal b22 xy2 σ28).bind fun (_, σ31) =>
  (zg_c σ31 b22 1).bind fun _ =>
  (zf_Agreement_stir b22 σ31).bind fun (_, σ35) =>
  (zg_r σ35 ay0 0 2).bind fun b38 =>
  (za_ln σ35 b38 4 xy1).bind fun b39 =>
  (zg_i σ35 b22 1 10).bind fun v42 =>
  (zg_c σ35 ay0 0).bind fun _ =>
  (zf_TL_closeSlot ay0 b39 v42 σ35).bind fun (_, σ45) =>
  some ((nI 1), σ45))
  else
  (some ((nI 0), σ7))))
set_option maxRecDepth 100000 in
set_option maxHeartbeats 4000000 in
theorem zm_TL_propose {l : Launch} {D : va_G} {ca : Nat → ClassId} {n0 : Nat} {ay0 : Nat} {xy1 : Int32} {xy2 : Int32} {σ σ' : za_h} {r : Int32} (h : zf_TL_propose ay0 xy1 xy2 σ = some (r, σ')) : Met l zy_TL_propose (za_wy zy_TL_propose zc_TL_propose 4 (some .boolean)) { frames := 6, cells := 4, slots := 16, locals := 137 } (za_Pc D ca n0 [.ref ay0, .int xy1, .int xy2] σ) (za_Qi D ca n0 r σ') 4 16 (za_A n0) := by
  refine za_met (by decide) (Nat.le_of_ble_eq_true rfl) ?_
  intro p e s m below meth c ls hx hb hml hr hlk hts hown hnm hK hI hl
  replace hown : s.vm.findClass zR_TL = some m.cls := hown
  replace hl : lv_has ls 4 [(0, .ref ay0), (1, .int xy1), (2, .int xy2)] := hl
  have B18 : ∀ (H : Heap) (locs : List Loc) (ls : Array Slot) (σ : za_h), za_I D ca n0 s σ H locs → lv_has ls 4 [] → zf_TL_propose_18 σ = some (r, σ') → W p l e ({ frames := 6, cells := 4, slots := 16, locals := 137 }) s m ([.ref ay0, .int xy1, .int xy2] : List Value).toArray below meth c H locs 0 0 (MQ below (za_Qi D ca n0 r σ') ([.ref ay0, .int xy1, .int xy2] : List Value).toArray s 4 16 (za_A n0)) (F0 m 18 ls []) := by
    intro H locs ls σ hI hl h
    unfold zf_TL_propose_18 at h
    refine lv_iconst (v := nI 0) hx hb zd_TL_propose_18 (by decide) ?_
    exact za_zret hx hb hr hlk hI (by decide) h (Nat.le_of_ble_eq_true rfl) (Nat.le_of_ble_eq_true rfl) zd_TL_propose_19
  unfold zf_TL_propose at h
  refine lv_aload_n hx hb zd_TL_propose_0 rfl (lv_at hl 0 rfl) ?_
  refine lv_iload_n hx hb zd_TL_propose_1 rfl (lv_at hl 1 rfl) ?_
  obtain ⟨_, g1, h⟩ := zb_o h
  obtain ⟨⟨r2, σ3⟩, e4, h⟩ := zb_o h
  refine za_calli (za_runV hx hb hml hown hts hK hI g1 (zm_TL_isAtWork e4) zj_TL_72 ⟨rfl, rfl⟩ ⟨Nat.le_of_ble_eq_true rfl, Nat.le_of_ble_eq_true rfl⟩ rfl hl.1 rfl (Nat.le_of_ble_eq_true rfl) zd_TL_propose_2 ⟨Nat.le_of_ble_eq_true rfl, Nat.le_of_ble_eq_true rfl⟩) hI (fun H locs hI => ?_)
  refine lv_if_eq hx hb (tgt := 18) zd_TL_propose_5 (by decide) (fun c5 => ?_) (fun c5 => ?_)
  · replace h := zb_t c5 h
    exact B18 _ _ ls σ3 hI (lv_sub hl [] rfl) h
  · replace h := zb_f c5 h
    refine lv_iload_n hx hb zd_TL_propose_8 rfl (lv_at hl 2 rfl) ?_
    refine lv_iconst (v := nI 1) hx hb zd_TL_propose_9 (by decide) ?_
    refine lv_bipush (v := nI 7) hx hb zd_TL_propose_10 (by decide) ?_
    obtain ⟨⟨r6, σ7⟩, e8, h⟩ := zb_o h
    refine za_calli (za_runS hx hb hml hown hts hK hI (zm_TL_isWithin e8) zj_TL_41 ⟨rfl, rfl⟩ ⟨Nat.le_of_ble_eq_true rfl, Nat.le_of_ble_eq_true rfl⟩ rfl hl.1 rfl (Nat.le_of_ble_eq_true rfl) zd_TL_propose_12 ⟨Nat.le_of_ble_eq_true rfl, Nat.le_of_ble_eq_true rfl⟩) hI (fun H locs hI => ?_)
    refine lv_if_ne hx hb (tgt := 20) zd_TL_propose_15 (by decide) (fun c9 => ?_) (fun c9 => ?_)
    · replace h := zb_f c9 h
      refine lv_aload_n hx hb zd_TL_propose_20 rfl (lv_at hl 0 rfl) ?_
      obtain ⟨b11, e10, h⟩ := zb_o h
      refine za_getr hx hb hts hown hK hI zl_TL_22 e10 zd_TL_propose_21 ?_
      refine lv_iload_n hx hb zd_TL_propose_24 rfl (lv_at hl 1 rfl) ?_
      obtain ⟨b12, e13, h⟩ := zb_o h
      refine za_aaln hx hb hK hI (t := 4) rfl e13 zd_TL_propose_25 ?_
      obtain ⟨b15, e14, h⟩ := zb_o h
      refine za_getr hx hb hts hown hK hI zl_TL_75 e14 zd_TL_propose_26 ?_
      refine lv_aload_n hx hb zd_TL_propose_29 rfl (lv_at hl 0 rfl) ?_
      obtain ⟨b17, e16, h⟩ := zb_o h
      refine za_getr hx hb hts hown hK hI zl_TL_22 e16 zd_TL_propose_30 ?_
      refine lv_iload_n hx hb zd_TL_propose_33 rfl (lv_at hl 1 rfl) ?_
      obtain ⟨b18, e19, h⟩ := zb_o h
      refine za_aaln hx hb hK hI (t := 4) rfl e19 zd_TL_propose_34 ?_
      obtain ⟨v21, e20, h⟩ := zb_o h
      refine za_geti hx hb hts hown hK hI zl_TL_79 e20 zd_TL_propose_35 ?_
      obtain ⟨b22, e23, h⟩ := zb_o h
      refine za_aaln hx hb hK hI (t := 2) rfl e23 zd_TL_propose_38 ?_
      refine lv_astore_n (lv' := [(3, .ref b22), (0, .ref ay0), (1, .int xy1), (2, .int xy2)]) hx hb zd_TL_propose_39 rfl hl (Nat.le_of_ble_eq_true rfl) rfl (fun ls hl => ?_)
      refine lv_aload_n hx hb zd_TL_propose_40 rfl (lv_at hl 0 rfl) ?_
      obtain ⟨v25, e24, h⟩ := zb_o h
      refine za_geti hx hb hts hown hK hI zl_TL_82 e24 zd_TL_propose_41 ?_
      refine lv_if_eq hx hb (tgt := 49) zd_TL_propose_44 (by decide) (fun c26 => ?_) (fun c26 => ?_)
      · replace h := zb_t c26 h
        refine lv_aload_n hx hb zd_TL_propose_49 rfl (lv_at hl 1 rfl) ?_
        refine lv_iconst (v := nI 1) hx hb zd_TL_propose_50 (by decide) ?_
        obtain ⟨σ28, e27, h⟩ := zb_o h
        refine za_put hx hb hts hown hK hI zl_TL_45 e27 (by decide +kernel) (by decide +kernel) zd_TL_propose_51 (fun H locs hI => ?_)
        refine lv_aload_n hx hb zd_TL_propose_54 rfl (lv_at hl 0 rfl) ?_
        refine lv_iload_n hx hb zd_TL_propose_55 rfl (lv_at hl 3 rfl) ?_
        obtain ⟨_, g29, h⟩ := zb_o h
        obtain ⟨⟨r30, σ31⟩, e32, h⟩ := zb_o h
        refine za_callv (za_runV hx hb hml hown hts hK hI g29 (zm_Agreement_takeProposal e32) zj_TL_87 ⟨rfl, rfl⟩ ⟨Nat.le_of_ble_eq_true rfl, Nat.le_of_ble_eq_true rfl⟩ rfl hl.1 rfl (Nat.le_of_ble_eq_true rfl) zd_TL_propose_56 ⟨Nat.le_of_ble_eq_true rfl, Nat.le_of_ble_eq_true rfl⟩) hI (fun H locs hI => ?_)
        refine lv_aload_n hx hb zd_TL_propose_59 rfl (lv_at hl 0 rfl) ?_
        obtain ⟨_, g33, h⟩ := zb_o h
        obtain ⟨⟨r34, σ35⟩, e36, h⟩ := zb_o h
        refine za_callv (za_runV hx hb hml hown hts hK hI g33 (zm_Agreement_stir e36) zj_TL_91 ⟨rfl, rfl⟩ ⟨Nat.le_of_ble_eq_true rfl, Nat.le_of_ble_eq_true rfl⟩ rfl hl.1 rfl (Nat.le_of_ble_eq_true rfl) zd_TL_propose_60 ⟨Nat.le_of_ble_eq_true rfl, Nat.le_of_ble_eq_true rfl⟩) hI (fun H locs hI => ?_)
        refine lv_aload_n hx hb zd_TL_propose_63 rfl (lv_at hl 1 rfl) ?_
        refine lv_aload_n hx hb zd_TL_propose_64 rfl (lv_at hl 1 rfl) ?_
        obtain ⟨b38, e37, h⟩ := zb_o h
        refine za_getr hx hb hts hown hK hI zl_TL_22 e37 zd_TL_propose_65 ?_
        refine lv_iload_n hx hb zd_TL_propose_68 rfl (lv_at hl 2 rfl) ?_
        obtain ⟨b39, e40, h⟩ := zb_o h
        refine za_aaln hx hb hK hI (t := 4) rfl e40 zd_TL_propose_69 ?_
        refine lv_aload_n hx hb zd_TL_propose_70 rfl (lv_at hl 0 rfl) ?_
        obtain ⟨v42, e41, h⟩ := zb_o h
        refine za_geti hx hb hts hown hK hI zl_TL_94 e41 zd_TL_propose_71 ?_
        obtain ⟨_, g43, h⟩ := zb_o h
        obtain ⟨⟨r44, σ45⟩, e46, h⟩ := zb_o h
        refine za_callv (za_runV hx hb hml hown hts hK hI g43 (zm_TL_closeSlot e46) zj_TL_97 ⟨rfl, rfl⟩ ⟨Nat.le_of_ble_eq_true rfl, Nat.le_of_ble_eq_true rfl⟩ rfl hl.1 rfl (Nat.le_of_ble_eq_true rfl) zd_TL_propose_74 ⟨Nat.le_of_ble_eq_true rfl, Nat.le_of_ble_eq_true rfl⟩) hI (fun H locs hI => ?_)
        refine lv_iconst (v := nI 1) hx hb zd_TL_propose_77 (by decide) ?_
        exact za_zret hx hb hr hlk hI (by decide) h (Nat.le_of_ble_eq_true rfl) (Nat.le_of_ble_eq_true rfl) zd_TL_propose_78
      · replace h := zb_f c26 h
        refine lv_iconst (v := nI 0) hx hb zd_TL_propose_47 (by decide) ?_
        exact za_zret hx hb hr hlk hI (by decide) h (Nat.le_of_ble_eq_true rfl) (Nat.le_of_ble_eq_true rfl) zd_TL_propose_48
    · replace h := zb_t c9 h
      exact B18 _ _ ls σ7 hI (lv_sub hl [] rfl) h

def zf_TL_timeout (ay0 : Nat) (xy1 : Int32) (σ : za_h) : Option (Int32 × za_h) :=
  (zg_c σ ay0 0).bind fun _ =>
  (zf_TL_isAtWork ay0 xy1 σ).bind fun (r2, σ3) =>
  if r2 = 0 then
  (some ((nI 0), σ3))
  else
  ((zg_r σ3 ay0 0 2).bind fun b7 =>
  (za_ln σ3 b7 4 xy1).bind fun b8 =>
  (zg_r σ3 b8 4 0).bind fun b11 =>
  (zg_r σ3 ay0 0 2).bind fun b13 =>
  (za_ln σ3 b13 4 xy1).bind fun b14 =>
  (zg_i σ3 b14 4 2).bind fun v17 =>
  (za_ln σ3 b11 2 v17).bind fun b18 =>
  (zg_i σ3 b18 1 7).bind fun v21 =>
  if v21 = 0 then
  (some ((nI 0), σ3))
  else
  ((zp_f σ3 ay0 0 6 (.int (nI 1))).bind fun σ24 =>
  (zg_c σ24 b18 1).bind fun _ =>
  (zf_Agreement_runOutOfTime b18 σ24).bind fun (_, σ27) =>
  (zg_c σ27 b18 1).bind fun _ =>
  (zf_Agreement_stir b18 σ27).bind fun (_, σ31) =>
  (zg_r σ31 ay0 0 2).bind fun b34 =>
  (za_ln σ31 b34 4 xy1).bind fun b35 =>
  (zg_i σ31 b18 1 10).bind fun v38 =>
  (zg_c σ31 ay0 0).bind fun _ =>
  (zf_TL_closeSlot ay0 b35 v38 σ31).bind fun (_, σ41) =>
  some ((nI 1), σ41)))
set_option maxRecDepth 100000 in
set_option maxHeartbeats 4000000 in
theorem zm_TL_timeout {l : Launch} {D : va_G} {ca : Nat → ClassId} {n0 : Nat} {ay0 : Nat} {xy1 : Int32} {σ σ' : za_h} {r : Int32} (h : zf_TL_timeout ay0 xy1 σ = some (r, σ')) : Met l zy_TL_timeout (za_wy zy_TL_timeout zc_TL_timeout 3 (some .boolean)) { frames := 6, cells := 4, slots := 16, locals := 137 } (za_Pc D ca n0 [.ref ay0, .int xy1] σ) (za_Qi D ca n0 r σ') 4 16 (za_A n0) := by
  refine za_met (by decide) (Nat.le_of_ble_eq_true rfl) ?_
  intro p e s m below meth c ls hx hb hml hr hlk hts hown hnm hK hI hl
  replace hown : s.vm.findClass zR_TL = some m.cls := hown
  replace hl : lv_has ls 3 [(0, .ref ay0), (1, .int xy1)] := hl
  unfold zf_TL_timeout at h
  refine lv_aload_n hx hb zd_TL_timeout_0 rfl (lv_at hl 0 rfl) ?_
  refine lv_iload_n hx hb zd_TL_timeout_1 rfl (lv_at hl 1 rfl) ?_
  obtain ⟨_, g1, h⟩ := zb_o h
  obtain ⟨⟨r2, σ3⟩, e4, h⟩ := zb_o h
  refine za_calli (za_runV hx hb hml hown hts hK hI g1 (zm_TL_isAtWork e4) zj_TL_72 ⟨rfl, rfl⟩ ⟨Nat.le_of_ble_eq_true rfl, Nat.le_of_ble_eq_true rfl⟩ rfl hl.1 rfl (Nat.le_of_ble_eq_true rfl) zd_TL_timeout_2 ⟨Nat.le_of_ble_eq_true rfl, Nat.le_of_ble_eq_true rfl⟩) hI (fun H locs hI => ?_)
  refine lv_if_ne hx hb (tgt := 10) zd_TL_timeout_5 (by decide) (fun c5 => ?_) (fun c5 => ?_)
  · replace h := zb_f c5 h
    refine lv_aload_n hx hb zd_TL_timeout_10 rfl (lv_at hl 0 rfl) ?_
    obtain ⟨b7, e6, h⟩ := zb_o h
    refine za_getr hx hb hts hown hK hI zl_TL_22 e6 zd_TL_timeout_11 ?_
    refine lv_iload_n hx hb zd_TL_timeout_14 rfl (lv_at hl 1 rfl) ?_
    obtain ⟨b8, e9, h⟩ := zb_o h
    refine za_aaln hx hb hK hI (t := 4) rfl e9 zd_TL_timeout_15 ?_
    obtain ⟨b11, e10, h⟩ := zb_o h
    refine za_getr hx hb hts hown hK hI zl_TL_75 e10 zd_TL_timeout_16 ?_
    refine lv_aload_n hx hb zd_TL_timeout_19 rfl (lv_at hl 0 rfl) ?_
    obtain ⟨b13, e12, h⟩ := zb_o h
    refine za_getr hx hb hts hown hK hI zl_TL_22 e12 zd_TL_timeout_20 ?_
    refine lv_iload_n hx hb zd_TL_timeout_23 rfl (lv_at hl 1 rfl) ?_
    obtain ⟨b14, e15, h⟩ := zb_o h
    refine za_aaln hx hb hK hI (t := 4) rfl e15 zd_TL_timeout_24 ?_
    obtain ⟨v17, e16, h⟩ := zb_o h
    refine za_geti hx hb hts hown hK hI zl_TL_79 e16 zd_TL_timeout_25 ?_
    obtain ⟨b18, e19, h⟩ := zb_o h
    refine za_aaln hx hb hK hI (t := 2) rfl e19 zd_TL_timeout_28 ?_
    refine lv_astore_n (lv' := [(2, .ref b18), (0, .ref ay0), (1, .int xy1)]) hx hb zd_TL_timeout_29 rfl hl (Nat.le_of_ble_eq_true rfl) rfl (fun ls hl => ?_)
    refine lv_aload_n hx hb zd_TL_timeout_30 rfl (lv_at hl 0 rfl) ?_
    obtain ⟨v21, e20, h⟩ := zb_o h
    refine za_geti hx hb hts hown hK hI zl_TL_101 e20 zd_TL_timeout_31 ?_
    refine lv_if_ne hx hb (tgt := 39) zd_TL_timeout_34 (by decide) (fun c22 => ?_) (fun c22 => ?_)
    · replace h := zb_f c22 h
      refine lv_aload_n hx hb zd_TL_timeout_39 rfl (lv_at hl 1 rfl) ?_
      refine lv_iconst (v := nI 1) hx hb zd_TL_timeout_40 (by decide) ?_
      obtain ⟨σ24, e23, h⟩ := zb_o h
      refine za_put hx hb hts hown hK hI zl_TL_45 e23 (by decide +kernel) (by decide +kernel) zd_TL_timeout_41 (fun H locs hI => ?_)
      refine lv_aload_n hx hb zd_TL_timeout_44 rfl (lv_at hl 0 rfl) ?_
      obtain ⟨_, g25, h⟩ := zb_o h
      obtain ⟨⟨r26, σ27⟩, e28, h⟩ := zb_o h
      refine za_callv (za_runV hx hb hml hown hts hK hI g25 (zm_Agreement_runOutOfTime e28) zj_TL_104 ⟨rfl, rfl⟩ ⟨Nat.le_of_ble_eq_true rfl, Nat.le_of_ble_eq_true rfl⟩ rfl hl.1 rfl (Nat.le_of_ble_eq_true rfl) zd_TL_timeout_45 ⟨Nat.le_of_ble_eq_true rfl, Nat.le_of_ble_eq_true rfl⟩) hI (fun H locs hI => ?_)
      refine lv_aload_n hx hb zd_TL_timeout_48 rfl (lv_at hl 0 rfl) ?_
      obtain ⟨_, g29, h⟩ := zb_o h
      obtain ⟨⟨r30, σ31⟩, e32, h⟩ := zb_o h
      refine za_callv (za_runV hx hb hml hown hts hK hI g29 (zm_Agreement_stir e32) zj_TL_91 ⟨rfl, rfl⟩ ⟨Nat.le_of_ble_eq_true rfl, Nat.le_of_ble_eq_true rfl⟩ rfl hl.1 rfl (Nat.le_of_ble_eq_true rfl) zd_TL_timeout_49 ⟨Nat.le_of_ble_eq_true rfl, Nat.le_of_ble_eq_true rfl⟩) hI (fun H locs hI => ?_)
      refine lv_aload_n hx hb zd_TL_timeout_52 rfl (lv_at hl 1 rfl) ?_
      refine lv_aload_n hx hb zd_TL_timeout_53 rfl (lv_at hl 1 rfl) ?_
      obtain ⟨b34, e33, h⟩ := zb_o h
      refine za_getr hx hb hts hown hK hI zl_TL_22 e33 zd_TL_timeout_54 ?_
      refine lv_iload_n hx hb zd_TL_timeout_57 rfl (lv_at hl 2 rfl) ?_
      obtain ⟨b35, e36, h⟩ := zb_o h
      refine za_aaln hx hb hK hI (t := 4) rfl e36 zd_TL_timeout_58 ?_
      refine lv_aload_n hx hb zd_TL_timeout_59 rfl (lv_at hl 0 rfl) ?_
      obtain ⟨v38, e37, h⟩ := zb_o h
      refine za_geti hx hb hts hown hK hI zl_TL_94 e37 zd_TL_timeout_60 ?_
      obtain ⟨_, g39, h⟩ := zb_o h
      obtain ⟨⟨r40, σ41⟩, e42, h⟩ := zb_o h
      refine za_callv (za_runV hx hb hml hown hts hK hI g39 (zm_TL_closeSlot e42) zj_TL_97 ⟨rfl, rfl⟩ ⟨Nat.le_of_ble_eq_true rfl, Nat.le_of_ble_eq_true rfl⟩ rfl hl.1 rfl (Nat.le_of_ble_eq_true rfl) zd_TL_timeout_63 ⟨Nat.le_of_ble_eq_true rfl, Nat.le_of_ble_eq_true rfl⟩) hI (fun H locs hI => ?_)
      refine lv_iconst (v := nI 1) hx hb zd_TL_timeout_66 (by decide) ?_
      exact za_zret hx hb hr hlk hI (by decide) h (Nat.le_of_ble_eq_true rfl) (Nat.le_of_ble_eq_true rfl) zd_TL_timeout_67
    · replace h := zb_t c22 h
      refine lv_iconst (v := nI 0) hx hb zd_TL_timeout_37 (by decide) ?_
      exact za_zret hx hb hr hlk hI (by decide) h (Nat.le_of_ble_eq_true rfl) (Nat.le_of_ble_eq_true rfl) zd_TL_timeout_38
  · replace h := zb_t c5 h
    refine lv_iconst (v := nI 0) hx hb zd_TL_timeout_8 (by decide) ?_
    exact za_zret hx hb hr hlk hI (by decide) h (Nat.le_of_ble_eq_true rfl) (Nat.le_of_ble_eq_true rfl) zd_TL_timeout_9

def zf_TL_keepEnvelope (ay0 : Nat) (ay1 : Nat) (σ : za_h) : Option (Int32 × za_h) :=
  (zp_f σ ay0 0 6 (.int (nI 1))).bind fun σ2 =>
  (zg_r σ2 ay0 0 4).bind fun b4 =>
  (zg_i σ2 ay0 0 5).bind fun v6 =>
  (za_sq σ2 b4 3 2 v6 (some ay1)).bind fun σ7 =>
  (zg_i σ7 ay0 0 5).bind fun v10 =>
  (zp_f σ7 ay0 0 5 (.int (v10 + (nI 1)))).bind fun σ12 =>
  (zg_i σ12 ay0 0 5).bind fun v14 =>
  some ((v14 - (nI 1)), σ12)
set_option maxRecDepth 100000 in
set_option maxHeartbeats 4000000 in
theorem zm_TL_keepEnvelope {l : Launch} {D : va_G} {ca : Nat → ClassId} {n0 : Nat} {ay0 : Nat} {ay1 : Nat} {σ σ' : za_h} {r : Int32} (h : zf_TL_keepEnvelope ay0 ay1 σ = some (r, σ')) : Met l zy_TL_keepEnvelope (za_wy zy_TL_keepEnvelope zc_TL_keepEnvelope 2 (some .int)) { frames := 0, cells := 0, slots := 0, locals := 0 } (za_Pc D ca n0 [.ref ay0, .ref ay1] σ) (za_Qi D ca n0 r σ') 0 0 (za_A n0) := by
  refine za_met (by decide) (Nat.le_of_ble_eq_true rfl) ?_
  intro p e s m below meth c ls hx hb hml hr hlk hts hown hnm hK hI hl
  replace hown : s.vm.findClass zR_TL = some m.cls := hown
  replace hl : lv_has ls 2 [(0, .ref ay0), (1, .ref ay1)] := hl
  unfold zf_TL_keepEnvelope at h
  refine lv_aload_n hx hb zd_TL_keepEnvelope_0 rfl (lv_at hl 0 rfl) ?_
  refine lv_iconst (v := nI 1) hx hb zd_TL_keepEnvelope_1 (by decide) ?_
  obtain ⟨σ2, e1, h⟩ := zb_o h
  refine za_put hx hb hts hown hK hI zl_TL_45 e1 (by decide +kernel) (by decide +kernel) zd_TL_keepEnvelope_2 (fun H locs hI => ?_)
  refine lv_aload_n hx hb zd_TL_keepEnvelope_5 rfl (lv_at hl 0 rfl) ?_
  obtain ⟨b4, e3, h⟩ := zb_o h
  refine za_getr hx hb hts hown hK hI zl_TL_37 e3 zd_TL_keepEnvelope_6 ?_
  refine lv_aload_n hx hb zd_TL_keepEnvelope_9 rfl (lv_at hl 0 rfl) ?_
  obtain ⟨v6, e5, h⟩ := zb_o h
  refine za_geti hx hb hts hown hK hI zl_TL_110 e5 zd_TL_keepEnvelope_10 ?_
  refine lv_aload_n hx hb zd_TL_keepEnvelope_13 rfl (lv_at hl 1 rfl) ?_
  obtain ⟨σ7, e8, h⟩ := zb_o h
  refine za_aast (o := (some ay1)) hx hb hK hI (t := 3) (ci := 2) rfl ⟨_, _, rfl⟩ e8 zd_TL_keepEnvelope_14 (fun H locs hI => ?_)
  refine lv_aload_n hx hb zd_TL_keepEnvelope_15 rfl (lv_at hl 0 rfl) ?_
  refine lv_dup hx hb zd_TL_keepEnvelope_16 rfl ?_
  obtain ⟨v10, e9, h⟩ := zb_o h
  refine za_geti hx hb hts hown hK hI zl_TL_110 e9 zd_TL_keepEnvelope_17 ?_
  refine lv_iconst (v := nI 1) hx hb zd_TL_keepEnvelope_20 (by decide) ?_
  refine lv_iadd hx hb zd_TL_keepEnvelope_21 ?_
  obtain ⟨σ12, e11, h⟩ := zb_o h
  refine za_put hx hb hts hown hK hI zl_TL_110 e11 rfl rfl zd_TL_keepEnvelope_22 (fun H locs hI => ?_)
  refine lv_aload_n hx hb zd_TL_keepEnvelope_25 rfl (lv_at hl 0 rfl) ?_
  obtain ⟨v14, e13, h⟩ := zb_o h
  refine za_geti hx hb hts hown hK hI zl_TL_110 e13 zd_TL_keepEnvelope_26 ?_
  refine lv_iconst (v := nI 1) hx hb zd_TL_keepEnvelope_29 (by decide) ?_
  refine lv_isub hx hb zd_TL_keepEnvelope_30 ?_
  exact za_iret hx hb hr hlk hI h (Nat.le_of_ble_eq_true rfl) (Nat.le_of_ble_eq_true rfl) zd_TL_keepEnvelope_31

def zf_TL_post_37  (σ : za_h) : Option (Int32 × za_h) :=
  some ((-1), σ)

def zf_TL_post_52 : Nat → Nat → Int32 → Int32 → Nat → Int32 → za_h → Option (Int32 × za_h)
  | 0, _, _, _, _, _, _ => none
  | n + 1, a0, x1, x2, a3, x4, σ =>
  if (nI 3) ≤ x4 then
  ((zg_c σ a0 0).bind fun _ =>
  (zf_TL_keepEnvelope a0 a3 σ).bind fun (r3, σ4) =>
  some (r3, σ4))
  else
  ((zg_r σ a0 0 2).bind fun b7 =>
  (za_ln σ b7 4 x1).bind fun b8 =>
  (zg_r σ b8 4 0).bind fun b11 =>
  (za_ln σ b11 2 x2).bind fun b12 =>
  (zg_c σ b12 1).bind fun _ =>
  (zf_Agreement_ofKind b12 x4 σ).bind fun (r15, σ16) =>
  (zg_r σ16 a3 2 2).bind fun b19 =>
  (zg_r σ16 r15 7 4).bind fun b21 =>
  (za_ld σ16 b21 0 x1).bind fun v22 =>
  (za_st σ16 b19 0 x4 v22).bind fun σ24 =>
  (zg_r σ24 a3 2 3).bind fun b27 =>
  (zg_r σ24 r15 7 5).bind fun b29 =>
  (za_ld σ24 b29 0 x1).bind fun v30 =>
  (za_st σ24 b27 0 x4 v30).bind fun σ32 =>
  zf_TL_post_52 n a0 x1 x2 a3 (x4 + nI 1) σ32)

def zf_TL_post (ay0 : Nat) (xy1 : Int32) (xy2 : Int32) (σ : za_h) : Option (Int32 × za_h) :=
  (zg_c σ ay0 0).bind fun _ =>
  (zf_TL_isGood ay0 xy1 σ).bind fun (r2, σ3) =>
  if r2 = 0 then
  (zf_TL_post_37 σ3)
  else
  ((zf_TL_isSlot xy2 σ3).bind fun (r6, σ7) =>
  if r6 = 0 then
  (zf_TL_post_37 σ7)
  else
  ((zg_r σ7 ay0 0 2).bind fun b11 =>
  (za_ln σ7 b11 4 xy1).bind fun b12 =>
  (zg_i σ7 b12 4 2).bind fun v15 =>
  if v15 < xy2 then
  (zf_TL_post_37 σ7)
  else
  ((zg_i σ7 ay0 0 5).bind fun v18 =>
  if v18 < (nI 120) then
  ((zf_Envelope_init σ7.2 xy1 xy2 (za_n σ7 (.inr (2, [.int 0, .int 0, .null, .null])))).bind fun (_, σ21) =>
  zf_TL_post_52 6 ay0 xy1 xy2 σ7.2 (nI 0) σ21)
  else
  (zf_TL_post_37 σ7))))
set_option maxRecDepth 100000 in
set_option maxHeartbeats 4000000 in
theorem zm_TL_post {l : Launch} {D : va_G} {ca : Nat → ClassId} {n0 : Nat} {ay0 : Nat} {xy1 : Int32} {xy2 : Int32} {σ σ' : za_h} {r : Int32} (h : zf_TL_post ay0 xy1 xy2 σ = some (r, σ')) : Met l zy_TL_post (za_wy zy_TL_post zc_TL_post 6 (some .int)) { frames := 2, cells := 3, slots := 10, locals := 43 } (za_Pc D ca n0 [.ref ay0, .int xy1, .int xy2] σ) (za_Qi D ca n0 r σ') 3 10 (za_A n0) := by
  refine za_met (by decide) (Nat.le_of_ble_eq_true rfl) ?_
  intro p e s m below meth c ls hx hb hml hr hlk hts hown hnm hK hI hl
  replace hown : s.vm.findClass zR_TL = some m.cls := hown
  replace hl : lv_has ls 6 [(0, .ref ay0), (1, .int xy1), (2, .int xy2)] := hl
  have B37 : ∀ (H : Heap) (locs : List Loc) (ls : Array Slot) (σ : za_h), za_I D ca n0 s σ H locs → lv_has ls 6 [] → zf_TL_post_37 σ = some (r, σ') → W p l e ({ frames := 2, cells := 3, slots := 10, locals := 43 }) s m ([.ref ay0, .int xy1, .int xy2] : List Value).toArray below meth c H locs 0 0 (MQ below (za_Qi D ca n0 r σ') ([.ref ay0, .int xy1, .int xy2] : List Value).toArray s 3 10 (za_A n0)) (F0 m 37 ls []) := by
    intro H locs ls σ hI hl h
    unfold zf_TL_post_37 at h
    refine lv_iconst (v := -1) hx hb zd_TL_post_37 (by decide) ?_
    exact za_iret hx hb hr hlk hI h (Nat.le_of_ble_eq_true rfl) (Nat.le_of_ble_eq_true rfl) zd_TL_post_38
  have B52 : ∀ n : Nat, ∀ (H : Heap) (locs : List Loc) (ls : Array Slot) (a0 : Nat) (x1 : Int32) (x2 : Int32) (a3 : Nat) (x4 : Int32) (σ : za_h), za_I D ca n0 s σ H locs → lv_has ls 6 [(0, .ref a0), (1, .int x1), (2, .int x2), (3, .ref a3), (4, .int x4)] → zf_TL_post_52 n a0 x1 x2 a3 x4 σ = some (r, σ') → W p l e ({ frames := 2, cells := 3, slots := 10, locals := 43 }) s m ([.ref ay0, .int xy1, .int xy2] : List Value).toArray below meth c H locs 3 10 (MQ below (za_Qi D ca n0 r σ') ([.ref ay0, .int xy1, .int xy2] : List Value).toArray s 3 10 (za_A n0)) (F0 m 52 ls []) := by
    intro n
    induction n with
    | zero => intro H locs ls a0 x1 x2 a3 x4 σ hI hl h; rw [zf_TL_post_52] at h; cases h
    | succ n ih =>
      intro H locs ls a0 x1 x2 a3 x4 σ hI hl h
      rw [zf_TL_post_52] at h
      refine lv_iload hx hb zd_TL_post_52 (lv_at hl 4 rfl) ?_
      refine lv_iconst (v := nI 3) hx hb zd_TL_post_54 (by decide) ?_
      refine lv_icmp_ge hx hb (tgt := 110) zd_TL_post_55 (by decide) (fun c1 => ?_) (fun c1 => ?_)
      · replace h := zb_t c1 h
        refine lv_aload_n hx hb zd_TL_post_110 rfl (lv_at hl 0 rfl) ?_
        refine lv_aload_n hx hb zd_TL_post_111 rfl (lv_at hl 3 rfl) ?_
        obtain ⟨_, g2, h⟩ := zb_o h
        obtain ⟨⟨r3, σ4⟩, e5, h⟩ := zb_o h
        refine za_calli (za_runV hx hb hml hown hts hK hI g2 (zm_TL_keepEnvelope e5) zj_TL_131 ⟨rfl, rfl⟩ ⟨Nat.le_of_ble_eq_true rfl, Nat.le_of_ble_eq_true rfl⟩ rfl hl.1 rfl (Nat.le_of_ble_eq_true rfl) zd_TL_post_112 ⟨Nat.le_of_ble_eq_true rfl, Nat.le_of_ble_eq_true rfl⟩) hI (fun H locs hI => ?_)
        exact za_iret hx hb hr hlk hI h (Nat.le_of_ble_eq_true rfl) (Nat.le_of_ble_eq_true rfl) zd_TL_post_115
      · replace h := zb_f c1 h
        refine lv_aload_n hx hb zd_TL_post_58 rfl (lv_at hl 0 rfl) ?_
        obtain ⟨b7, e6, h⟩ := zb_o h
        refine za_getr hx hb hts hown hK hI zl_TL_22 e6 zd_TL_post_59 ?_
        refine lv_iload_n hx hb zd_TL_post_62 rfl (lv_at hl 1 rfl) ?_
        obtain ⟨b8, e9, h⟩ := zb_o h
        refine za_aaln hx hb hK hI (t := 4) rfl e9 zd_TL_post_63 ?_
        obtain ⟨b11, e10, h⟩ := zb_o h
        refine za_getr hx hb hts hown hK hI zl_TL_75 e10 zd_TL_post_64 ?_
        refine lv_iload_n hx hb zd_TL_post_67 rfl (lv_at hl 2 rfl) ?_
        obtain ⟨b12, e13, h⟩ := zb_o h
        refine za_aaln hx hb hK hI (t := 2) rfl e13 zd_TL_post_68 ?_
        refine lv_iload hx hb zd_TL_post_69 (lv_at hl 4 rfl) ?_
        obtain ⟨_, g14, h⟩ := zb_o h
        obtain ⟨⟨r15, σ16⟩, e17, h⟩ := zb_o h
        refine za_callr (za_runV hx hb hml hown hts hK hI g14 (zm_Agreement_ofKind e17) zj_TL_116 ⟨rfl, rfl⟩ ⟨Nat.le_of_ble_eq_true rfl, Nat.le_of_ble_eq_true rfl⟩ rfl hl.1 rfl (Nat.le_of_ble_eq_true rfl) zd_TL_post_71 ⟨Nat.le_of_ble_eq_true rfl, Nat.le_of_ble_eq_true rfl⟩) hI (fun H locs hI => ?_)
        refine lv_astore (lv' := [(5, .ref r15), (0, .ref a0), (1, .int x1), (2, .int x2), (3, .ref a3), (4, .int x4)]) hx hb zd_TL_post_74 hl (Nat.le_of_ble_eq_true rfl) rfl (fun ls hl => ?_)
        refine lv_aload_n hx hb zd_TL_post_76 rfl (lv_at hl 4 rfl) ?_
        obtain ⟨b19, e18, h⟩ := zb_o h
        refine za_getr hx hb hts hown hK hI zl_TL_120 e18 zd_TL_post_77 ?_
        refine lv_iload hx hb zd_TL_post_80 (lv_at hl 5 rfl) ?_
        refine lv_aload hx hb zd_TL_post_82 (lv_at hl 0 rfl) ?_
        obtain ⟨b21, e20, h⟩ := zb_o h
        refine za_getr hx hb hts hown hK hI zl_TL_124 e20 zd_TL_post_84 ?_
        refine lv_iload_n hx hb zd_TL_post_87 rfl (lv_at hl 2 rfl) ?_
        obtain ⟨v22, e23, h⟩ := zb_o h
        refine za_iald hx hb hK hI e23 zd_TL_post_88 ?_
        obtain ⟨σ24, e25, h⟩ := zb_o h
        refine za_iast hx hb hK hI e25 zd_TL_post_89 (fun H locs hI => ?_)
        refine lv_aload_n hx hb zd_TL_post_90 rfl (lv_at hl 4 rfl) ?_
        obtain ⟨b27, e26, h⟩ := zb_o h
        refine za_getr hx hb hts hown hK hI zl_TL_127 e26 zd_TL_post_91 ?_
        refine lv_iload hx hb zd_TL_post_94 (lv_at hl 5 rfl) ?_
        refine lv_aload hx hb zd_TL_post_96 (lv_at hl 0 rfl) ?_
        obtain ⟨b29, e28, h⟩ := zb_o h
        refine za_getr hx hb hts hown hK hI zl_TL_130 e28 zd_TL_post_98 ?_
        refine lv_iload_n hx hb zd_TL_post_101 rfl (lv_at hl 2 rfl) ?_
        obtain ⟨v30, e31, h⟩ := zb_o h
        refine za_iald hx hb hK hI e31 zd_TL_post_102 ?_
        obtain ⟨σ32, e33, h⟩ := zb_o h
        refine za_iast hx hb hK hI e33 zd_TL_post_103 (fun H locs hI => ?_)
        refine lv_iinc (k := 5) (v := (x4 + nI 1)) (lv' := [(4, .int (x4 + nI 1)), (5, .ref r15), (0, .ref a0), (1, .int x1), (2, .int x2), (3, .ref a3)]) hx hb zd_TL_post_104 hl rfl rfl (Nat.le_of_ble_eq_true rfl) rfl (fun ls hl => ?_)
        refine lv_goto hx hb (tgt := 52) zd_TL_post_107 (by decide) ?_
        exact ih _ _ ls a0 x1 x2 a3 (x4 + nI 1) σ32 hI (lv_sub hl [2, 3, 4, 5, 0] rfl) h
  unfold zf_TL_post at h
  refine lv_aload_n hx hb zd_TL_post_0 rfl (lv_at hl 0 rfl) ?_
  refine lv_iload_n hx hb zd_TL_post_1 rfl (lv_at hl 1 rfl) ?_
  obtain ⟨_, g1, h⟩ := zb_o h
  obtain ⟨⟨r2, σ3⟩, e4, h⟩ := zb_o h
  refine za_calli (za_runV hx hb hml hown hts hK hI g1 (zm_TL_isGood e4) zj_TL_107 ⟨rfl, rfl⟩ ⟨Nat.le_of_ble_eq_true rfl, Nat.le_of_ble_eq_true rfl⟩ rfl hl.1 rfl (Nat.le_of_ble_eq_true rfl) zd_TL_post_2 ⟨Nat.le_of_ble_eq_true rfl, Nat.le_of_ble_eq_true rfl⟩) hI (fun H locs hI => ?_)
  refine lv_if_eq hx hb (tgt := 37) zd_TL_post_5 (by decide) (fun c5 => ?_) (fun c5 => ?_)
  · replace h := zb_t c5 h
    exact B37 _ _ ls σ3 hI (lv_sub hl [] rfl) h
  · replace h := zb_f c5 h
    refine lv_iload_n hx hb zd_TL_post_8 rfl (lv_at hl 2 rfl) ?_
    obtain ⟨⟨r6, σ7⟩, e8, h⟩ := zb_o h
    refine za_calli (za_runS hx hb hml hown hts hK hI (zm_TL_isSlot e8) zj_TL_59 ⟨rfl, rfl⟩ ⟨Nat.le_of_ble_eq_true rfl, Nat.le_of_ble_eq_true rfl⟩ rfl hl.1 rfl (Nat.le_of_ble_eq_true rfl) zd_TL_post_9 ⟨Nat.le_of_ble_eq_true rfl, Nat.le_of_ble_eq_true rfl⟩) hI (fun H locs hI => ?_)
    refine lv_if_eq hx hb (tgt := 37) zd_TL_post_12 (by decide) (fun c9 => ?_) (fun c9 => ?_)
    · replace h := zb_t c9 h
      exact B37 _ _ ls σ7 hI (lv_sub hl [] rfl) h
    · replace h := zb_f c9 h
      refine lv_iload_n hx hb zd_TL_post_15 rfl (lv_at hl 2 rfl) ?_
      refine lv_aload_n hx hb zd_TL_post_16 rfl (lv_at hl 0 rfl) ?_
      obtain ⟨b11, e10, h⟩ := zb_o h
      refine za_getr hx hb hts hown hK hI zl_TL_22 e10 zd_TL_post_17 ?_
      refine lv_iload_n hx hb zd_TL_post_20 rfl (lv_at hl 1 rfl) ?_
      obtain ⟨b12, e13, h⟩ := zb_o h
      refine za_aaln hx hb hK hI (t := 4) rfl e13 zd_TL_post_21 ?_
      obtain ⟨v15, e14, h⟩ := zb_o h
      refine za_geti hx hb hts hown hK hI zl_TL_79 e14 zd_TL_post_22 ?_
      refine lv_icmp_gt hx hb (tgt := 37) zd_TL_post_25 (by decide) (fun c16 => ?_) (fun c16 => ?_)
      · replace h := zb_t c16 h
        exact B37 _ _ ls σ7 hI (lv_sub hl [] rfl) h
      · replace h := zb_f c16 h
        refine lv_aload_n hx hb zd_TL_post_28 rfl (lv_at hl 0 rfl) ?_
        obtain ⟨v18, e17, h⟩ := zb_o h
        refine za_geti hx hb hts hown hK hI zl_TL_110 e17 zd_TL_post_29 ?_
        refine lv_bipush (v := nI 120) hx hb zd_TL_post_32 (by decide) ?_
        refine lv_icmp_lt hx hb (tgt := 39) zd_TL_post_34 (by decide) (fun c19 => ?_) (fun c19 => ?_)
        · replace h := zb_t c19 h
          refine za_new hx hb hts hown hK hI zw_TL_35 (Nat.le_of_ble_eq_true rfl) (Nat.le_of_ble_eq_true rfl) zd_TL_post_39 (fun H hI => ?_)
          refine lv_dup hx hb zd_TL_post_42 rfl ?_
          refine lv_iload_n hx hb zd_TL_post_43 rfl (lv_at hl 1 rfl) ?_
          refine lv_iload_n hx hb zd_TL_post_44 rfl (lv_at hl 2 rfl) ?_
          obtain ⟨⟨r20, σ21⟩, e22, h⟩ := zb_o h
          refine za_callv (za_runI hx hb hml hown hts hK hI (zm_Envelope_init e22) zj_TL_113 ⟨rfl, rfl⟩ ⟨Nat.le_of_ble_eq_true rfl, Nat.le_of_ble_eq_true rfl⟩ rfl hl.1 rfl (Nat.le_of_ble_eq_true rfl) zd_TL_post_45 ⟨Nat.le_of_ble_eq_true rfl, Nat.le_of_ble_eq_true rfl⟩) hI (fun H locs hI => ?_)
          refine lv_astore_n (lv' := [(3, .ref σ7.2), (0, .ref ay0), (1, .int xy1), (2, .int xy2)]) hx hb zd_TL_post_48 rfl hl (Nat.le_of_ble_eq_true rfl) rfl (fun ls hl => ?_)
          refine lv_iconst (v := nI 0) hx hb zd_TL_post_49 (by decide) ?_
          refine lv_istore (lv' := [(4, .int (nI 0)), (3, .ref σ7.2), (0, .ref ay0), (1, .int xy1), (2, .int xy2)]) hx hb zd_TL_post_50 hl (Nat.le_of_ble_eq_true rfl) rfl (fun ls hl => ?_)
          exact B52 6 _ _ ls ay0 xy1 xy2 σ7.2 (nI 0) σ21 hI (lv_sub hl [2, 3, 4, 1, 0] rfl) h
        · replace h := zb_f c19 h
          exact B37 _ _ ls σ7 hI (lv_sub hl [] rfl) h

def zf_TL_forge_48  (σ : za_h) : Option (Int32 × za_h) :=
  some ((-1), σ)

def zf_TL_forge_25 (a0 : Nat) (x1 : Int32) (x2 : Int32) (x3 : Int32) (x4 : Int32) (x5 : Int32) (xs0 : Int32) (σ : za_h) : Option (Int32 × za_h) :=
  if xs0 = 0 then
  (zf_TL_forge_48 σ)
  else
  ((zf_TL_isSlot x2 σ).bind fun (r2, σ3) =>
  if r2 = 0 then
  (zf_TL_forge_48 σ3)
  else
  ((zg_i σ3 a0 0 5).bind fun v7 =>
  if v7 < (nI 120) then
  ((zf_Envelope_init σ3.2 x1 x2 (za_n σ3 (.inr (2, [.int 0, .int 0, .null, .null])))).bind fun (_, σ10) =>
  (zg_c σ10 σ3.2 2).bind fun _ =>
  (zf_Envelope_claim σ3.2 (nI 0) (x3 &&& (nI 254)) σ10).bind fun (_, σ14) =>
  (zg_c σ14 σ3.2 2).bind fun _ =>
  (zf_Envelope_claim σ3.2 (nI 1) (x4 &&& (nI 268435455)) σ14).bind fun (_, σ18) =>
  (zg_c σ18 σ3.2 2).bind fun _ =>
  (zf_Envelope_claim σ3.2 (nI 2) (x5 &&& (nI 268435455)) σ18).bind fun (_, σ22) =>
  (zg_c σ22 a0 0).bind fun _ =>
  (zf_TL_keepEnvelope a0 σ3.2 σ22).bind fun (r25, σ26) =>
  some (r25, σ26))
  else
  (zf_TL_forge_48 σ3)))

def zf_TL_forge_24 (a0 : Nat) (x1 : Int32) (x2 : Int32) (x3 : Int32) (x4 : Int32) (x5 : Int32) (σ : za_h) : Option (Int32 × za_h) :=
  zf_TL_forge_25 a0 x1 x2 x3 x4 x5 (nI 0) σ

def zf_TL_forge (ay0 : Nat) (xy1 : Int32) (xy2 : Int32) (xy3 : Int32) (xy4 : Int32) (xy5 : Int32) (σ : za_h) : Option (Int32 × za_h) :=
  (zf_TL_isWithin xy1 (nI 0) (nI 4) σ).bind fun (r1, σ2) =>
  if r1 = 0 then
  (zf_TL_forge_24 ay0 xy1 xy2 xy3 xy4 xy5 σ2)
  else
  ((zg_i σ2 ay0 0 0).bind fun v6 =>
  (zf_TL_has v6 xy1 σ2).bind fun (r7, σ8) =>
  if r7 = 0 then
  (zf_TL_forge_24 ay0 xy1 xy2 xy3 xy4 xy5 σ8)
  else
  (zf_TL_forge_25 ay0 xy1 xy2 xy3 xy4 xy5 (nI 1) σ8))
set_option maxRecDepth 100000 in
set_option maxHeartbeats 4000000 in
theorem zm_TL_forge {l : Launch} {D : va_G} {ca : Nat → ClassId} {n0 : Nat} {ay0 : Nat} {xy1 : Int32} {xy2 : Int32} {xy3 : Int32} {xy4 : Int32} {xy5 : Int32} {σ σ' : za_h} {r : Int32} (h : zf_TL_forge ay0 xy1 xy2 xy3 xy4 xy5 σ = some (r, σ')) : Met l zy_TL_forge (za_wy zy_TL_forge zc_TL_forge 8 (some .int)) { frames := 2, cells := 3, slots := 10, locals := 42 } (za_Pc D ca n0 [.ref ay0, .int xy1, .int xy2, .int xy3, .int xy4, .int xy5] σ) (za_Qi D ca n0 r σ') 3 10 (za_A n0) := by
  refine za_met (by decide) (Nat.le_of_ble_eq_true rfl) ?_
  intro p e s m below meth c ls hx hb hml hr hlk hts hown hnm hK hI hl
  replace hown : s.vm.findClass zR_TL = some m.cls := hown
  replace hl : lv_has ls 8 [(0, .ref ay0), (1, .int xy1), (2, .int xy2), (3, .int xy3), (4, .int xy4), (5, .int xy5)] := hl
  have B48 : ∀ (H : Heap) (locs : List Loc) (ls : Array Slot) (σ : za_h), za_I D ca n0 s σ H locs → lv_has ls 8 [] → zf_TL_forge_48 σ = some (r, σ') → W p l e ({ frames := 2, cells := 3, slots := 10, locals := 42 }) s m ([.ref ay0, .int xy1, .int xy2, .int xy3, .int xy4, .int xy5] : List Value).toArray below meth c H locs 0 0 (MQ below (za_Qi D ca n0 r σ') ([.ref ay0, .int xy1, .int xy2, .int xy3, .int xy4, .int xy5] : List Value).toArray s 3 10 (za_A n0)) (F0 m 48 ls []) := by
    intro H locs ls σ hI hl h
    unfold zf_TL_forge_48 at h
    refine lv_iconst (v := -1) hx hb zd_TL_forge_48 (by decide) ?_
    exact za_iret hx hb hr hlk hI h (Nat.le_of_ble_eq_true rfl) (Nat.le_of_ble_eq_true rfl) zd_TL_forge_49
  have B25 : ∀ (H : Heap) (locs : List Loc) (ls : Array Slot) (a0 : Nat) (x1 : Int32) (x2 : Int32) (x3 : Int32) (x4 : Int32) (x5 : Int32) (xs0 : Int32) (σ : za_h), za_I D ca n0 s σ H locs → lv_has ls 8 [(0, .ref a0), (1, .int x1), (2, .int x2), (3, .int x3), (4, .int x4), (5, .int x5)] → zf_TL_forge_25 a0 x1 x2 x3 x4 x5 xs0 σ = some (r, σ') → W p l e ({ frames := 2, cells := 3, slots := 10, locals := 42 }) s m ([.ref ay0, .int xy1, .int xy2, .int xy3, .int xy4, .int xy5] : List Value).toArray below meth c H locs 0 0 (MQ below (za_Qi D ca n0 r σ') ([.ref ay0, .int xy1, .int xy2, .int xy3, .int xy4, .int xy5] : List Value).toArray s 3 10 (za_A n0)) (F0 m 25 ls [.int xs0]) := by
    intro H locs ls a0 x1 x2 x3 x4 x5 xs0 σ hI hl h
    unfold zf_TL_forge_25 at h
    refine lv_istore (lv' := [(6, .int xs0), (0, .ref a0), (1, .int x1), (2, .int x2), (3, .int x3), (4, .int x4), (5, .int x5)]) hx hb zd_TL_forge_25 hl (Nat.le_of_ble_eq_true rfl) rfl (fun ls hl => ?_)
    refine lv_iload hx hb zd_TL_forge_27 (lv_at hl 0 rfl) ?_
    refine lv_if_eq hx hb (tgt := 48) zd_TL_forge_29 (by decide) (fun c1 => ?_) (fun c1 => ?_)
    · replace h := zb_t c1 h
      exact B48 _ _ ls σ hI (lv_sub hl [] rfl) h
    · replace h := zb_f c1 h
      refine lv_iload_n hx hb zd_TL_forge_32 rfl (lv_at hl 3 rfl) ?_
      obtain ⟨⟨r2, σ3⟩, e4, h⟩ := zb_o h
      refine za_calli (za_runS hx hb hml hown hts hK hI (zm_TL_isSlot e4) zj_TL_59 ⟨rfl, rfl⟩ ⟨Nat.le_of_ble_eq_true rfl, Nat.le_of_ble_eq_true rfl⟩ rfl hl.1 rfl (Nat.le_of_ble_eq_true rfl) zd_TL_forge_33 ⟨Nat.le_of_ble_eq_true rfl, Nat.le_of_ble_eq_true rfl⟩) hI (fun H locs hI => ?_)
      refine lv_if_eq hx hb (tgt := 48) zd_TL_forge_36 (by decide) (fun c5 => ?_) (fun c5 => ?_)
      · replace h := zb_t c5 h
        exact B48 _ _ ls σ3 hI (lv_sub hl [] rfl) h
      · replace h := zb_f c5 h
        refine lv_aload_n hx hb zd_TL_forge_39 rfl (lv_at hl 1 rfl) ?_
        obtain ⟨v7, e6, h⟩ := zb_o h
        refine za_geti hx hb hts hown hK hI zl_TL_110 e6 zd_TL_forge_40 ?_
        refine lv_bipush (v := nI 120) hx hb zd_TL_forge_43 (by decide) ?_
        refine lv_icmp_lt hx hb (tgt := 50) zd_TL_forge_45 (by decide) (fun c8 => ?_) (fun c8 => ?_)
        · replace h := zb_t c8 h
          refine za_new hx hb hts hown hK hI zw_TL_35 (Nat.le_of_ble_eq_true rfl) (Nat.le_of_ble_eq_true rfl) zd_TL_forge_50 (fun H hI => ?_)
          refine lv_dup hx hb zd_TL_forge_53 rfl ?_
          refine lv_iload_n hx hb zd_TL_forge_54 rfl (lv_at hl 2 rfl) ?_
          refine lv_iload_n hx hb zd_TL_forge_55 rfl (lv_at hl 3 rfl) ?_
          obtain ⟨⟨r9, σ10⟩, e11, h⟩ := zb_o h
          refine za_callv (za_runI hx hb hml hown hts hK hI (zm_Envelope_init e11) zj_TL_113 ⟨rfl, rfl⟩ ⟨Nat.le_of_ble_eq_true rfl, Nat.le_of_ble_eq_true rfl⟩ rfl hl.1 rfl (Nat.le_of_ble_eq_true rfl) zd_TL_forge_56 ⟨Nat.le_of_ble_eq_true rfl, Nat.le_of_ble_eq_true rfl⟩) hI (fun H locs hI => ?_)
          refine lv_astore (lv' := [(7, .ref σ3.2), (6, .int xs0), (0, .ref a0), (1, .int x1), (2, .int x2), (3, .int x3), (4, .int x4), (5, .int x5)]) hx hb zd_TL_forge_59 hl (Nat.le_of_ble_eq_true rfl) rfl (fun ls hl => ?_)
          refine lv_aload hx hb zd_TL_forge_61 (lv_at hl 0 rfl) ?_
          refine lv_iconst (v := nI 0) hx hb zd_TL_forge_63 (by decide) ?_
          refine lv_iload_n hx hb zd_TL_forge_64 rfl (lv_at hl 5 rfl) ?_
          refine lv_sipush (v := nI 254) hx hb zd_TL_forge_65 (by decide) ?_
          refine lv_iand hx hb zd_TL_forge_68 ?_
          obtain ⟨_, g12, h⟩ := zb_o h
          obtain ⟨⟨r13, σ14⟩, e15, h⟩ := zb_o h
          refine za_callv (za_runV hx hb hml hown hts hK hI g12 (zm_Envelope_claim e15) zj_TL_139 ⟨rfl, rfl⟩ ⟨Nat.le_of_ble_eq_true rfl, Nat.le_of_ble_eq_true rfl⟩ rfl hl.1 rfl (Nat.le_of_ble_eq_true rfl) zd_TL_forge_69 ⟨Nat.le_of_ble_eq_true rfl, Nat.le_of_ble_eq_true rfl⟩) hI (fun H locs hI => ?_)
          refine lv_aload hx hb zd_TL_forge_72 (lv_at hl 0 rfl) ?_
          refine lv_iconst (v := nI 1) hx hb zd_TL_forge_74 (by decide) ?_
          refine lv_iload hx hb zd_TL_forge_75 (lv_at hl 6 rfl) ?_
          refine lv_ldc (v := nI 268435455) hx hb hown (hts _ zk_367) zd_TL_forge_77 ?_
          refine lv_iand hx hb zd_TL_forge_79 ?_
          obtain ⟨_, g16, h⟩ := zb_o h
          obtain ⟨⟨r17, σ18⟩, e19, h⟩ := zb_o h
          refine za_callv (za_runV hx hb hml hown hts hK hI g16 (zm_Envelope_claim e19) zj_TL_139 ⟨rfl, rfl⟩ ⟨Nat.le_of_ble_eq_true rfl, Nat.le_of_ble_eq_true rfl⟩ rfl hl.1 rfl (Nat.le_of_ble_eq_true rfl) zd_TL_forge_80 ⟨Nat.le_of_ble_eq_true rfl, Nat.le_of_ble_eq_true rfl⟩) hI (fun H locs hI => ?_)
          refine lv_aload hx hb zd_TL_forge_83 (lv_at hl 0 rfl) ?_
          refine lv_iconst (v := nI 2) hx hb zd_TL_forge_85 (by decide) ?_
          refine lv_iload hx hb zd_TL_forge_86 (lv_at hl 7 rfl) ?_
          refine lv_ldc (v := nI 268435455) hx hb hown (hts _ zk_367) zd_TL_forge_88 ?_
          refine lv_iand hx hb zd_TL_forge_90 ?_
          obtain ⟨_, g20, h⟩ := zb_o h
          obtain ⟨⟨r21, σ22⟩, e23, h⟩ := zb_o h
          refine za_callv (za_runV hx hb hml hown hts hK hI g20 (zm_Envelope_claim e23) zj_TL_139 ⟨rfl, rfl⟩ ⟨Nat.le_of_ble_eq_true rfl, Nat.le_of_ble_eq_true rfl⟩ rfl hl.1 rfl (Nat.le_of_ble_eq_true rfl) zd_TL_forge_91 ⟨Nat.le_of_ble_eq_true rfl, Nat.le_of_ble_eq_true rfl⟩) hI (fun H locs hI => ?_)
          refine lv_aload_n hx hb zd_TL_forge_94 rfl (lv_at hl 2 rfl) ?_
          refine lv_aload hx hb zd_TL_forge_95 (lv_at hl 0 rfl) ?_
          obtain ⟨_, g24, h⟩ := zb_o h
          obtain ⟨⟨r25, σ26⟩, e27, h⟩ := zb_o h
          refine za_calli (za_runV hx hb hml hown hts hK hI g24 (zm_TL_keepEnvelope e27) zj_TL_131 ⟨rfl, rfl⟩ ⟨Nat.le_of_ble_eq_true rfl, Nat.le_of_ble_eq_true rfl⟩ rfl hl.1 rfl (Nat.le_of_ble_eq_true rfl) zd_TL_forge_97 ⟨Nat.le_of_ble_eq_true rfl, Nat.le_of_ble_eq_true rfl⟩) hI (fun H locs hI => ?_)
          exact za_iret hx hb hr hlk hI h (Nat.le_of_ble_eq_true rfl) (Nat.le_of_ble_eq_true rfl) zd_TL_forge_100
        · replace h := zb_f c8 h
          exact B48 _ _ ls σ3 hI (lv_sub hl [] rfl) h
  have B24 : ∀ (H : Heap) (locs : List Loc) (ls : Array Slot) (a0 : Nat) (x1 : Int32) (x2 : Int32) (x3 : Int32) (x4 : Int32) (x5 : Int32) (σ : za_h), za_I D ca n0 s σ H locs → lv_has ls 8 [(0, .ref a0), (1, .int x1), (2, .int x2), (3, .int x3), (4, .int x4), (5, .int x5)] → zf_TL_forge_24 a0 x1 x2 x3 x4 x5 σ = some (r, σ') → W p l e ({ frames := 2, cells := 3, slots := 10, locals := 42 }) s m ([.ref ay0, .int xy1, .int xy2, .int xy3, .int xy4, .int xy5] : List Value).toArray below meth c H locs 0 0 (MQ below (za_Qi D ca n0 r σ') ([.ref ay0, .int xy1, .int xy2, .int xy3, .int xy4, .int xy5] : List Value).toArray s 3 10 (za_A n0)) (F0 m 24 ls []) := by
    intro H locs ls a0 x1 x2 x3 x4 x5 σ hI hl h
    unfold zf_TL_forge_24 at h
    refine lv_iconst (v := nI 0) hx hb zd_TL_forge_24 (by decide) ?_
    exact B25 _ _ ls a0 x1 x2 x3 x4 x5 (nI 0) σ hI (lv_sub hl [0, 1, 2, 3, 4, 5] rfl) h
  unfold zf_TL_forge at h
  refine lv_iload_n hx hb zd_TL_forge_0 rfl (lv_at hl 1 rfl) ?_
  refine lv_iconst (v := nI 0) hx hb zd_TL_forge_1 (by decide) ?_
  refine lv_iconst (v := nI 4) hx hb zd_TL_forge_2 (by decide) ?_
  obtain ⟨⟨r1, σ2⟩, e3, h⟩ := zb_o h
  refine za_calli (za_runS hx hb hml hown hts hK hI (zm_TL_isWithin e3) zj_TL_41 ⟨rfl, rfl⟩ ⟨Nat.le_of_ble_eq_true rfl, Nat.le_of_ble_eq_true rfl⟩ rfl hl.1 rfl (Nat.le_of_ble_eq_true rfl) zd_TL_forge_3 ⟨Nat.le_of_ble_eq_true rfl, Nat.le_of_ble_eq_true rfl⟩) hI (fun H locs hI => ?_)
  refine lv_if_eq hx hb (tgt := 24) zd_TL_forge_6 (by decide) (fun c4 => ?_) (fun c4 => ?_)
  · replace h := zb_t c4 h
    exact B24 _ _ ls ay0 xy1 xy2 xy3 xy4 xy5 σ2 hI (lv_sub hl [0, 1, 2, 3, 4, 5] rfl) h
  · replace h := zb_f c4 h
    refine lv_aload_n hx hb zd_TL_forge_9 rfl (lv_at hl 0 rfl) ?_
    obtain ⟨v6, e5, h⟩ := zb_o h
    refine za_geti hx hb hts hown hK hI zl_TL_9 e5 zd_TL_forge_10 ?_
    refine lv_iload_n hx hb zd_TL_forge_13 rfl (lv_at hl 1 rfl) ?_
    obtain ⟨⟨r7, σ8⟩, e9, h⟩ := zb_o h
    refine za_calli (za_runS hx hb hml hown hts hK hI (zm_TL_has e9) zj_TL_135 ⟨rfl, rfl⟩ ⟨Nat.le_of_ble_eq_true rfl, Nat.le_of_ble_eq_true rfl⟩ rfl hl.1 rfl (Nat.le_of_ble_eq_true rfl) zd_TL_forge_14 ⟨Nat.le_of_ble_eq_true rfl, Nat.le_of_ble_eq_true rfl⟩) hI (fun H locs hI => ?_)
    refine lv_if_eq hx hb (tgt := 24) zd_TL_forge_17 (by decide) (fun c10 => ?_) (fun c10 => ?_)
    · replace h := zb_t c10 h
      exact B24 _ _ ls ay0 xy1 xy2 xy3 xy4 xy5 σ8 hI (lv_sub hl [0, 1, 2, 3, 4, 5] rfl) h
    · replace h := zb_f c10 h
      refine lv_iconst (v := nI 1) hx hb zd_TL_forge_20 (by decide) ?_
      refine lv_goto hx hb (tgt := 25) zd_TL_forge_21 (by decide) ?_
      exact B25 _ _ ls ay0 xy1 xy2 xy3 xy4 xy5 (nI 1) σ8 hI (lv_sub hl [0, 1, 2, 3, 4, 5] rfl) h

def zf_TL_deliver_18  (σ : za_h) : Option (Int32 × za_h) :=
  some ((nI 0), σ)

def zf_TL_deliver_55  (σ : za_h) : Option (Int32 × za_h) :=
  some ((nI 0), σ)

def zf_TL_deliver (ay0 : Nat) (xy1 : Int32) (xy2 : Int32) (σ : za_h) : Option (Int32 × za_h) :=
  (zf_TL_isWithin xy1 (nI 0) (nI 119) σ).bind fun (r1, σ2) =>
  if r1 = 0 then
  (zf_TL_deliver_18 σ2)
  else
  ((zg_c σ2 ay0 0).bind fun _ =>
  (zf_TL_isAtWork ay0 xy2 σ2).bind fun (r6, σ7) =>
  if r6 = 0 then
  (zf_TL_deliver_18 σ7)
  else
  ((zg_r σ7 ay0 0 4).bind fun b11 =>
  (za_lq σ7 b11 3 xy1).bind fun w12 =>
  match w12 with
  | none => (zf_TL_deliver_55 σ7)
  | some u15 => ((zg_i σ7 u15 2 0).bind fun v17 =>
  if v17 = xy2 then
  (zf_TL_deliver_55 σ7)
  else
  ((zg_i σ7 u15 2 1).bind fun v20 =>
  (zg_r σ7 ay0 0 2).bind fun b22 =>
  (za_ln σ7 b22 4 xy2).bind fun b23 =>
  (zg_i σ7 b23 4 2).bind fun v26 =>
  if v20 = v26 then
  ((zg_r σ7 ay0 0 2).bind fun b29 =>
  (za_ln σ7 b29 4 xy2).bind fun b30 =>
  (zg_r σ7 b30 4 0).bind fun b33 =>
  (zg_i σ7 u15 2 1).bind fun v35 =>
  (za_ln σ7 b33 2 v35).bind fun b36 =>
  (zg_c σ7 b36 1).bind fun _ =>
  (zf_Agreement_learn b36 u15 σ7).bind fun (_, σ40) =>
  (zg_c σ40 b36 1).bind fun _ =>
  (zf_Agreement_stir b36 σ40).bind fun (_, σ44) =>
  (zg_r σ44 ay0 0 2).bind fun b47 =>
  (za_ln σ44 b47 4 xy2).bind fun b48 =>
  (zg_i σ44 b36 1 10).bind fun v51 =>
  (zg_c σ44 ay0 0).bind fun _ =>
  (zf_TL_closeSlot ay0 b48 v51 σ44).bind fun (_, σ54) =>
  some ((nI 1), σ54))
  else
  (zf_TL_deliver_55 σ7)))))
set_option maxRecDepth 100000 in
set_option maxHeartbeats 4000000 in
theorem zm_TL_deliver {l : Launch} {D : va_G} {ca : Nat → ClassId} {n0 : Nat} {ay0 : Nat} {xy1 : Int32} {xy2 : Int32} {σ σ' : za_h} {r : Int32} (h : zf_TL_deliver ay0 xy1 xy2 σ = some (r, σ')) : Met l zy_TL_deliver (za_wy zy_TL_deliver zc_TL_deliver 5 (some .boolean)) { frames := 6, cells := 4, slots := 16, locals := 137 } (za_Pc D ca n0 [.ref ay0, .int xy1, .int xy2] σ) (za_Qi D ca n0 r σ') 4 16 (za_A n0) := by
  refine za_met (by decide) (Nat.le_of_ble_eq_true rfl) ?_
  intro p e s m below meth c ls hx hb hml hr hlk hts hown hnm hK hI hl
  replace hown : s.vm.findClass zR_TL = some m.cls := hown
  replace hl : lv_has ls 5 [(0, .ref ay0), (1, .int xy1), (2, .int xy2)] := hl
  have B18 : ∀ (H : Heap) (locs : List Loc) (ls : Array Slot) (σ : za_h), za_I D ca n0 s σ H locs → lv_has ls 5 [] → zf_TL_deliver_18 σ = some (r, σ') → W p l e ({ frames := 6, cells := 4, slots := 16, locals := 137 }) s m ([.ref ay0, .int xy1, .int xy2] : List Value).toArray below meth c H locs 0 0 (MQ below (za_Qi D ca n0 r σ') ([.ref ay0, .int xy1, .int xy2] : List Value).toArray s 4 16 (za_A n0)) (F0 m 18 ls []) := by
    intro H locs ls σ hI hl h
    unfold zf_TL_deliver_18 at h
    refine lv_iconst (v := nI 0) hx hb zd_TL_deliver_18 (by decide) ?_
    exact za_zret hx hb hr hlk hI (by decide) h (Nat.le_of_ble_eq_true rfl) (Nat.le_of_ble_eq_true rfl) zd_TL_deliver_19
  have B55 : ∀ (H : Heap) (locs : List Loc) (ls : Array Slot) (σ : za_h), za_I D ca n0 s σ H locs → lv_has ls 5 [] → zf_TL_deliver_55 σ = some (r, σ') → W p l e ({ frames := 6, cells := 4, slots := 16, locals := 137 }) s m ([.ref ay0, .int xy1, .int xy2] : List Value).toArray below meth c H locs 0 0 (MQ below (za_Qi D ca n0 r σ') ([.ref ay0, .int xy1, .int xy2] : List Value).toArray s 4 16 (za_A n0)) (F0 m 55 ls []) := by
    intro H locs ls σ hI hl h
    unfold zf_TL_deliver_55 at h
    refine lv_iconst (v := nI 0) hx hb zd_TL_deliver_55 (by decide) ?_
    exact za_zret hx hb hr hlk hI (by decide) h (Nat.le_of_ble_eq_true rfl) (Nat.le_of_ble_eq_true rfl) zd_TL_deliver_56
  unfold zf_TL_deliver at h
  refine lv_iload_n hx hb zd_TL_deliver_0 rfl (lv_at hl 1 rfl) ?_
  refine lv_iconst (v := nI 0) hx hb zd_TL_deliver_1 (by decide) ?_
  refine lv_bipush (v := nI 119) hx hb zd_TL_deliver_2 (by decide) ?_
  obtain ⟨⟨r1, σ2⟩, e3, h⟩ := zb_o h
  refine za_calli (za_runS hx hb hml hown hts hK hI (zm_TL_isWithin e3) zj_TL_41 ⟨rfl, rfl⟩ ⟨Nat.le_of_ble_eq_true rfl, Nat.le_of_ble_eq_true rfl⟩ rfl hl.1 rfl (Nat.le_of_ble_eq_true rfl) zd_TL_deliver_4 ⟨Nat.le_of_ble_eq_true rfl, Nat.le_of_ble_eq_true rfl⟩) hI (fun H locs hI => ?_)
  refine lv_if_eq hx hb (tgt := 18) zd_TL_deliver_7 (by decide) (fun c4 => ?_) (fun c4 => ?_)
  · replace h := zb_t c4 h
    exact B18 _ _ ls σ2 hI (lv_sub hl [] rfl) h
  · replace h := zb_f c4 h
    refine lv_aload_n hx hb zd_TL_deliver_10 rfl (lv_at hl 0 rfl) ?_
    refine lv_iload_n hx hb zd_TL_deliver_11 rfl (lv_at hl 2 rfl) ?_
    obtain ⟨_, g5, h⟩ := zb_o h
    obtain ⟨⟨r6, σ7⟩, e8, h⟩ := zb_o h
    refine za_calli (za_runV hx hb hml hown hts hK hI g5 (zm_TL_isAtWork e8) zj_TL_72 ⟨rfl, rfl⟩ ⟨Nat.le_of_ble_eq_true rfl, Nat.le_of_ble_eq_true rfl⟩ rfl hl.1 rfl (Nat.le_of_ble_eq_true rfl) zd_TL_deliver_12 ⟨Nat.le_of_ble_eq_true rfl, Nat.le_of_ble_eq_true rfl⟩) hI (fun H locs hI => ?_)
    refine lv_if_ne hx hb (tgt := 20) zd_TL_deliver_15 (by decide) (fun c9 => ?_) (fun c9 => ?_)
    · replace h := zb_f c9 h
      refine lv_aload_n hx hb zd_TL_deliver_20 rfl (lv_at hl 0 rfl) ?_
      obtain ⟨b11, e10, h⟩ := zb_o h
      refine za_getr hx hb hts hown hK hI zl_TL_37 e10 zd_TL_deliver_21 ?_
      refine lv_iload_n hx hb zd_TL_deliver_24 rfl (lv_at hl 1 rfl) ?_
      obtain ⟨w12, e13, h⟩ := zb_o h
      refine za_aald hx hb hK hI (t := 3) rfl e13 zd_TL_deliver_25 ?_
      refine za_astore_n (lv' := [(3, va_rf w12), (0, .ref ay0), (1, .int xy1), (2, .int xy2)]) hx hb zd_TL_deliver_26 rfl hl (Nat.le_of_ble_eq_true rfl) rfl (fun ls hl => ?_)
      refine za_aload_n hx hb zd_TL_deliver_27 rfl (lv_at hl 0 rfl) ?_
      refine za_ifnull hx hb (tgt := 55) zd_TL_deliver_28 (by decide) (fun c14 => ?_) (fun u15 c14 => ?_)
      · subst c14
        exact B55 _ _ ls σ7 hI (lv_sub hl [] rfl) h
      · subst c14
        refine lv_aload_n hx hb zd_TL_deliver_31 rfl (lv_at hl 0 rfl) ?_
        obtain ⟨v17, e16, h⟩ := zb_o h
        refine za_geti hx hb hts hown hK hI zl_TL_143 e16 zd_TL_deliver_32 ?_
        refine lv_iload_n hx hb zd_TL_deliver_35 rfl (lv_at hl 3 rfl) ?_
        refine lv_icmp_eq hx hb (tgt := 55) zd_TL_deliver_36 (by decide) (fun c18 => ?_) (fun c18 => ?_)
        · replace h := zb_t c18 h
          exact B55 _ _ ls σ7 hI (lv_sub hl [] rfl) h
        · replace h := zb_f c18 h
          refine lv_aload_n hx hb zd_TL_deliver_39 rfl (lv_at hl 0 rfl) ?_
          obtain ⟨v20, e19, h⟩ := zb_o h
          refine za_geti hx hb hts hown hK hI zl_TL_146 e19 zd_TL_deliver_40 ?_
          refine lv_aload_n hx hb zd_TL_deliver_43 rfl (lv_at hl 1 rfl) ?_
          obtain ⟨b22, e21, h⟩ := zb_o h
          refine za_getr hx hb hts hown hK hI zl_TL_22 e21 zd_TL_deliver_44 ?_
          refine lv_iload_n hx hb zd_TL_deliver_47 rfl (lv_at hl 3 rfl) ?_
          obtain ⟨b23, e24, h⟩ := zb_o h
          refine za_aaln hx hb hK hI (t := 4) rfl e24 zd_TL_deliver_48 ?_
          obtain ⟨v26, e25, h⟩ := zb_o h
          refine za_geti hx hb hts hown hK hI zl_TL_79 e25 zd_TL_deliver_49 ?_
          refine lv_icmp_eq hx hb (tgt := 57) zd_TL_deliver_52 (by decide) (fun c27 => ?_) (fun c27 => ?_)
          · replace h := zb_t c27 h
            refine lv_aload_n hx hb zd_TL_deliver_57 rfl (lv_at hl 1 rfl) ?_
            obtain ⟨b29, e28, h⟩ := zb_o h
            refine za_getr hx hb hts hown hK hI zl_TL_22 e28 zd_TL_deliver_58 ?_
            refine lv_iload_n hx hb zd_TL_deliver_61 rfl (lv_at hl 3 rfl) ?_
            obtain ⟨b30, e31, h⟩ := zb_o h
            refine za_aaln hx hb hK hI (t := 4) rfl e31 zd_TL_deliver_62 ?_
            obtain ⟨b33, e32, h⟩ := zb_o h
            refine za_getr hx hb hts hown hK hI zl_TL_75 e32 zd_TL_deliver_63 ?_
            refine lv_aload_n hx hb zd_TL_deliver_66 rfl (lv_at hl 0 rfl) ?_
            obtain ⟨v35, e34, h⟩ := zb_o h
            refine za_geti hx hb hts hown hK hI zl_TL_146 e34 zd_TL_deliver_67 ?_
            obtain ⟨b36, e37, h⟩ := zb_o h
            refine za_aaln hx hb hK hI (t := 2) rfl e37 zd_TL_deliver_70 ?_
            refine lv_astore (lv' := [(4, .ref b36), (3, .ref u15), (0, .ref ay0), (1, .int xy1), (2, .int xy2)]) hx hb zd_TL_deliver_71 hl (Nat.le_of_ble_eq_true rfl) rfl (fun ls hl => ?_)
            refine lv_aload hx hb zd_TL_deliver_73 (lv_at hl 0 rfl) ?_
            refine lv_aload_n hx hb zd_TL_deliver_75 rfl (lv_at hl 1 rfl) ?_
            obtain ⟨_, g38, h⟩ := zb_o h
            obtain ⟨⟨r39, σ40⟩, e41, h⟩ := zb_o h
            refine za_callv (za_runV hx hb hml hown hts hK hI g38 (zm_Agreement_learn e41) zj_TL_147 ⟨rfl, rfl⟩ ⟨Nat.le_of_ble_eq_true rfl, Nat.le_of_ble_eq_true rfl⟩ rfl hl.1 rfl (Nat.le_of_ble_eq_true rfl) zd_TL_deliver_76 ⟨Nat.le_of_ble_eq_true rfl, Nat.le_of_ble_eq_true rfl⟩) hI (fun H locs hI => ?_)
            refine lv_aload hx hb zd_TL_deliver_79 (lv_at hl 0 rfl) ?_
            obtain ⟨_, g42, h⟩ := zb_o h
            obtain ⟨⟨r43, σ44⟩, e45, h⟩ := zb_o h
            refine za_callv (za_runV hx hb hml hown hts hK hI g42 (zm_Agreement_stir e45) zj_TL_91 ⟨rfl, rfl⟩ ⟨Nat.le_of_ble_eq_true rfl, Nat.le_of_ble_eq_true rfl⟩ rfl hl.1 rfl (Nat.le_of_ble_eq_true rfl) zd_TL_deliver_81 ⟨Nat.le_of_ble_eq_true rfl, Nat.le_of_ble_eq_true rfl⟩) hI (fun H locs hI => ?_)
            refine lv_aload_n hx hb zd_TL_deliver_84 rfl (lv_at hl 2 rfl) ?_
            refine lv_aload_n hx hb zd_TL_deliver_85 rfl (lv_at hl 2 rfl) ?_
            obtain ⟨b47, e46, h⟩ := zb_o h
            refine za_getr hx hb hts hown hK hI zl_TL_22 e46 zd_TL_deliver_86 ?_
            refine lv_iload_n hx hb zd_TL_deliver_89 rfl (lv_at hl 4 rfl) ?_
            obtain ⟨b48, e49, h⟩ := zb_o h
            refine za_aaln hx hb hK hI (t := 4) rfl e49 zd_TL_deliver_90 ?_
            refine lv_aload hx hb zd_TL_deliver_91 (lv_at hl 0 rfl) ?_
            obtain ⟨v51, e50, h⟩ := zb_o h
            refine za_geti hx hb hts hown hK hI zl_TL_94 e50 zd_TL_deliver_93 ?_
            obtain ⟨_, g52, h⟩ := zb_o h
            obtain ⟨⟨r53, σ54⟩, e55, h⟩ := zb_o h
            refine za_callv (za_runV hx hb hml hown hts hK hI g52 (zm_TL_closeSlot e55) zj_TL_97 ⟨rfl, rfl⟩ ⟨Nat.le_of_ble_eq_true rfl, Nat.le_of_ble_eq_true rfl⟩ rfl hl.1 rfl (Nat.le_of_ble_eq_true rfl) zd_TL_deliver_96 ⟨Nat.le_of_ble_eq_true rfl, Nat.le_of_ble_eq_true rfl⟩) hI (fun H locs hI => ?_)
            refine lv_iconst (v := nI 1) hx hb zd_TL_deliver_99 (by decide) ?_
            exact za_zret hx hb hr hlk hI (by decide) h (Nat.le_of_ble_eq_true rfl) (Nat.le_of_ble_eq_true rfl) zd_TL_deliver_100
          · replace h := zb_f c27 h
            exact B55 _ _ ls σ7 hI (lv_sub hl [] rfl) h
    · replace h := zb_t c9 h
      exact B18 _ _ ls σ7 hI (lv_sub hl [] rfl) h

def zf_TL_envelopes (ay0 : Nat) (σ : za_h) : Option (Int32 × za_h) :=
  (zg_i σ ay0 0 5).bind fun v2 =>
  some (v2, σ)
set_option maxRecDepth 100000 in
set_option maxHeartbeats 4000000 in
theorem zm_TL_envelopes {l : Launch} {D : va_G} {ca : Nat → ClassId} {n0 : Nat} {ay0 : Nat} {σ σ' : za_h} {r : Int32} (h : zf_TL_envelopes ay0 σ = some (r, σ')) : Met l zy_TL_envelopes (za_wy zy_TL_envelopes zc_TL_envelopes 1 (some .int)) { frames := 0, cells := 0, slots := 0, locals := 0 } (za_Pc D ca n0 [.ref ay0] σ) (za_Qi D ca n0 r σ') 0 0 (za_A n0) := by
  refine za_met (by decide) (Nat.le_of_ble_eq_true rfl) ?_
  intro p e s m below meth c ls hx hb hml hr hlk hts hown hnm hK hI hl
  replace hown : s.vm.findClass zR_TL = some m.cls := hown
  replace hl : lv_has ls 1 [(0, .ref ay0)] := hl
  unfold zf_TL_envelopes at h
  refine lv_aload_n hx hb zd_TL_envelopes_0 rfl (lv_at hl 0 rfl) ?_
  obtain ⟨v2, e1, h⟩ := zb_o h
  refine za_geti hx hb hts hown hK hI zl_TL_110 e1 zd_TL_envelopes_1 ?_
  exact za_iret hx hb hr hlk hI h (Nat.le_of_ble_eq_true rfl) (Nat.le_of_ble_eq_true rfl) zd_TL_envelopes_4

def zf_TL_state_17  (σ : za_h) : Option (Int32 × za_h) :=
  some ((-1), σ)

def zf_TL_state_61 (xs0 : Int32) (σ : za_h) : Option (Int32 × za_h) :=
  some (xs0, σ)

def zf_TL_state (ay0 : Nat) (xy1 : Int32) (xy2 : Int32) (σ : za_h) : Option (Int32 × za_h) :=
  (zg_c σ ay0 0).bind fun _ =>
  (zf_TL_isGood ay0 xy1 σ).bind fun (r2, σ3) =>
  if r2 = 0 then
  (zf_TL_state_17 σ3)
  else
  ((zf_TL_isWithin xy2 (nI 0) (nI 5) σ3).bind fun (r6, σ7) =>
  if r6 = 0 then
  (zf_TL_state_17 σ7)
  else
  ((zg_r σ7 ay0 0 2).bind fun b11 =>
  (za_ln σ7 b11 4 xy1).bind fun b12 =>
  (zg_i σ7 b12 4 2).bind fun v15 =>
  if xy2 = 0 then
  (some (v15, σ7))
  else
  ((zf_TL_isSlot v15 σ7).bind fun (r17, σ18) =>
  if r17 = 0 then
  (zf_TL_state_61 (nI 0) σ18)
  else
  ((zg_r σ18 ay0 0 2).bind fun b22 =>
  (za_ln σ18 b22 4 xy1).bind fun b23 =>
  (zg_r σ18 b23 4 0).bind fun b26 =>
  (za_ln σ18 b26 2 v15).bind fun b27 =>
  (zg_c σ18 b27 1).bind fun _ =>
  (zf_Agreement_aspect b27 xy2 σ18).bind fun (r30, σ31) =>
  zf_TL_state_61 r30 σ31))))
set_option maxRecDepth 100000 in
set_option maxHeartbeats 4000000 in
theorem zm_TL_state {l : Launch} {D : va_G} {ca : Nat → ClassId} {n0 : Nat} {ay0 : Nat} {xy1 : Int32} {xy2 : Int32} {σ σ' : za_h} {r : Int32} (h : zf_TL_state ay0 xy1 xy2 σ = some (r, σ')) : Met l zy_TL_state (za_wy zy_TL_state zc_TL_state 4 (some .int)) { frames := 3, cells := 0, slots := 0, locals := 64 } (za_Pc D ca n0 [.ref ay0, .int xy1, .int xy2] σ) (za_Qi D ca n0 r σ') 0 0 (za_A n0) := by
  refine za_met (by decide) (Nat.le_of_ble_eq_true rfl) ?_
  intro p e s m below meth c ls hx hb hml hr hlk hts hown hnm hK hI hl
  replace hown : s.vm.findClass zR_TL = some m.cls := hown
  replace hl : lv_has ls 4 [(0, .ref ay0), (1, .int xy1), (2, .int xy2)] := hl
  have B17 : ∀ (H : Heap) (locs : List Loc) (ls : Array Slot) (σ : za_h), za_I D ca n0 s σ H locs → lv_has ls 4 [] → zf_TL_state_17 σ = some (r, σ') → W p l e ({ frames := 3, cells := 0, slots := 0, locals := 64 }) s m ([.ref ay0, .int xy1, .int xy2] : List Value).toArray below meth c H locs 0 0 (MQ below (za_Qi D ca n0 r σ') ([.ref ay0, .int xy1, .int xy2] : List Value).toArray s 0 0 (za_A n0)) (F0 m 17 ls []) := by
    intro H locs ls σ hI hl h
    unfold zf_TL_state_17 at h
    refine lv_iconst (v := -1) hx hb zd_TL_state_17 (by decide) ?_
    exact za_iret hx hb hr hlk hI h (Nat.le_of_ble_eq_true rfl) (Nat.le_of_ble_eq_true rfl) zd_TL_state_18
  have B61 : ∀ (H : Heap) (locs : List Loc) (ls : Array Slot) (xs0 : Int32) (σ : za_h), za_I D ca n0 s σ H locs → lv_has ls 4 [] → zf_TL_state_61 xs0 σ = some (r, σ') → W p l e ({ frames := 3, cells := 0, slots := 0, locals := 64 }) s m ([.ref ay0, .int xy1, .int xy2] : List Value).toArray below meth c H locs 0 0 (MQ below (za_Qi D ca n0 r σ') ([.ref ay0, .int xy1, .int xy2] : List Value).toArray s 0 0 (za_A n0)) (F0 m 61 ls [.int xs0]) := by
    intro H locs ls xs0 σ hI hl h
    unfold zf_TL_state_61 at h
    exact za_iret hx hb hr hlk hI h (Nat.le_of_ble_eq_true rfl) (Nat.le_of_ble_eq_true rfl) zd_TL_state_61
  unfold zf_TL_state at h
  refine lv_aload_n hx hb zd_TL_state_0 rfl (lv_at hl 0 rfl) ?_
  refine lv_iload_n hx hb zd_TL_state_1 rfl (lv_at hl 1 rfl) ?_
  obtain ⟨_, g1, h⟩ := zb_o h
  obtain ⟨⟨r2, σ3⟩, e4, h⟩ := zb_o h
  refine za_calli (za_runV hx hb hml hown hts hK hI g1 (zm_TL_isGood e4) zj_TL_107 ⟨rfl, rfl⟩ ⟨Nat.le_of_ble_eq_true rfl, Nat.le_of_ble_eq_true rfl⟩ rfl hl.1 rfl (Nat.le_of_ble_eq_true rfl) zd_TL_state_2 ⟨Nat.le_of_ble_eq_true rfl, Nat.le_of_ble_eq_true rfl⟩) hI (fun H locs hI => ?_)
  refine lv_if_eq hx hb (tgt := 17) zd_TL_state_5 (by decide) (fun c5 => ?_) (fun c5 => ?_)
  · replace h := zb_t c5 h
    exact B17 _ _ ls σ3 hI (lv_sub hl [] rfl) h
  · replace h := zb_f c5 h
    refine lv_iload_n hx hb zd_TL_state_8 rfl (lv_at hl 2 rfl) ?_
    refine lv_iconst (v := nI 0) hx hb zd_TL_state_9 (by decide) ?_
    refine lv_iconst (v := nI 5) hx hb zd_TL_state_10 (by decide) ?_
    obtain ⟨⟨r6, σ7⟩, e8, h⟩ := zb_o h
    refine za_calli (za_runS hx hb hml hown hts hK hI (zm_TL_isWithin e8) zj_TL_41 ⟨rfl, rfl⟩ ⟨Nat.le_of_ble_eq_true rfl, Nat.le_of_ble_eq_true rfl⟩ rfl hl.1 rfl (Nat.le_of_ble_eq_true rfl) zd_TL_state_11 ⟨Nat.le_of_ble_eq_true rfl, Nat.le_of_ble_eq_true rfl⟩) hI (fun H locs hI => ?_)
    refine lv_if_ne hx hb (tgt := 19) zd_TL_state_14 (by decide) (fun c9 => ?_) (fun c9 => ?_)
    · replace h := zb_f c9 h
      refine lv_aload_n hx hb zd_TL_state_19 rfl (lv_at hl 0 rfl) ?_
      obtain ⟨b11, e10, h⟩ := zb_o h
      refine za_getr hx hb hts hown hK hI zl_TL_22 e10 zd_TL_state_20 ?_
      refine lv_iload_n hx hb zd_TL_state_23 rfl (lv_at hl 1 rfl) ?_
      obtain ⟨b12, e13, h⟩ := zb_o h
      refine za_aaln hx hb hK hI (t := 4) rfl e13 zd_TL_state_24 ?_
      obtain ⟨v15, e14, h⟩ := zb_o h
      refine za_geti hx hb hts hown hK hI zl_TL_79 e14 zd_TL_state_25 ?_
      refine lv_istore_n (lv' := [(3, .int v15), (0, .ref ay0), (1, .int xy1), (2, .int xy2)]) hx hb zd_TL_state_28 rfl hl (Nat.le_of_ble_eq_true rfl) rfl (fun ls hl => ?_)
      refine lv_iload_n hx hb zd_TL_state_29 rfl (lv_at hl 3 rfl) ?_
      refine lv_if_ne hx hb (tgt := 35) zd_TL_state_30 (by decide) (fun c16 => ?_) (fun c16 => ?_)
      · replace h := zb_f c16 h
        refine lv_iload_n hx hb zd_TL_state_35 rfl (lv_at hl 0 rfl) ?_
        obtain ⟨⟨r17, σ18⟩, e19, h⟩ := zb_o h
        refine za_calli (za_runS hx hb hml hown hts hK hI (zm_TL_isSlot e19) zj_TL_59 ⟨rfl, rfl⟩ ⟨Nat.le_of_ble_eq_true rfl, Nat.le_of_ble_eq_true rfl⟩ rfl hl.1 rfl (Nat.le_of_ble_eq_true rfl) zd_TL_state_36 ⟨Nat.le_of_ble_eq_true rfl, Nat.le_of_ble_eq_true rfl⟩) hI (fun H locs hI => ?_)
        refine lv_if_eq hx hb (tgt := 60) zd_TL_state_39 (by decide) (fun c20 => ?_) (fun c20 => ?_)
        · replace h := zb_t c20 h
          refine lv_iconst (v := nI 0) hx hb zd_TL_state_60 (by decide) ?_
          exact B61 _ _ ls (nI 0) σ18 hI (lv_sub hl [] rfl) h
        · replace h := zb_f c20 h
          refine lv_aload_n hx hb zd_TL_state_42 rfl (lv_at hl 1 rfl) ?_
          obtain ⟨b22, e21, h⟩ := zb_o h
          refine za_getr hx hb hts hown hK hI zl_TL_22 e21 zd_TL_state_43 ?_
          refine lv_iload_n hx hb zd_TL_state_46 rfl (lv_at hl 2 rfl) ?_
          obtain ⟨b23, e24, h⟩ := zb_o h
          refine za_aaln hx hb hK hI (t := 4) rfl e24 zd_TL_state_47 ?_
          obtain ⟨b26, e25, h⟩ := zb_o h
          refine za_getr hx hb hts hown hK hI zl_TL_75 e25 zd_TL_state_48 ?_
          refine lv_iload_n hx hb zd_TL_state_51 rfl (lv_at hl 0 rfl) ?_
          obtain ⟨b27, e28, h⟩ := zb_o h
          refine za_aaln hx hb hK hI (t := 2) rfl e28 zd_TL_state_52 ?_
          refine lv_iload_n hx hb zd_TL_state_53 rfl (lv_at hl 3 rfl) ?_
          obtain ⟨_, g29, h⟩ := zb_o h
          obtain ⟨⟨r30, σ31⟩, e32, h⟩ := zb_o h
          refine za_calli (za_runV hx hb hml hown hts hK hI g29 (zm_Agreement_aspect e32) zj_TL_151 ⟨rfl, rfl⟩ ⟨Nat.le_of_ble_eq_true rfl, Nat.le_of_ble_eq_true rfl⟩ rfl hl.1 rfl (Nat.le_of_ble_eq_true rfl) zd_TL_state_54 ⟨Nat.le_of_ble_eq_true rfl, Nat.le_of_ble_eq_true rfl⟩) hI (fun H locs hI => ?_)
          refine lv_goto hx hb (tgt := 61) zd_TL_state_57 (by decide) ?_
          exact B61 _ _ ls r30 σ31 hI (lv_sub hl [] rfl) h
      · replace h := zb_t c16 h
        refine lv_iload_n hx hb zd_TL_state_33 rfl (lv_at hl 0 rfl) ?_
        exact za_iret hx hb hr hlk hI h (Nat.le_of_ble_eq_true rfl) (Nat.le_of_ble_eq_true rfl) zd_TL_state_34
    · replace h := zb_t c9 h
      exact B17 _ _ ls σ7 hI (lv_sub hl [] rfl) h

def zf_TL_statements_34  (σ : za_h) : Option (Int32 × za_h) :=
  some ((-1), σ)

def zf_TL_statements_85 (xs0 : Int32) (σ : za_h) : Option (Int32 × za_h) :=
  some (xs0, σ)

def zf_TL_statements (ay0 : Nat) (xy1 : Int32) (xy2 : Int32) (xy3 : Int32) (xy4 : Int32) (σ : za_h) : Option (Int32 × za_h) :=
  (zg_c σ ay0 0).bind fun _ =>
  (zf_TL_isGood ay0 xy1 σ).bind fun (r2, σ3) =>
  if r2 = 0 then
  (zf_TL_statements_34 σ3)
  else
  ((zf_TL_isSlot xy2 σ3).bind fun (r6, σ7) =>
  if r6 = 0 then
  (zf_TL_statements_34 σ7)
  else
  ((zf_TL_isWithin xy3 (nI 0) (nI 2) σ7).bind fun (r10, σ11) =>
  if r10 = 0 then
  (zf_TL_statements_34 σ11)
  else
  ((zf_TL_isWithin xy4 (nI 0) (nI 2) σ11).bind fun (r14, σ15) =>
  if r14 = 0 then
  (zf_TL_statements_34 σ15)
  else
  ((zg_r σ15 ay0 0 2).bind fun b19 =>
  (za_ln σ15 b19 4 xy1).bind fun b20 =>
  (zg_r σ15 b20 4 0).bind fun b23 =>
  (za_ln σ15 b23 2 xy2).bind fun b24 =>
  (zg_c σ15 b24 1).bind fun _ =>
  (zf_Agreement_ofKind b24 xy3 σ15).bind fun (r27, σ28) =>
  if xy4 = 0 then
  ((zg_i σ28 r27 7 2).bind fun v39 =>
  some (v39, σ28))
  else
  (if xy4 = (nI 1) then
  ((zg_r σ28 r27 7 5).bind fun b35 =>
  (za_ld σ28 b35 0 xy1).bind fun v36 =>
  zf_TL_statements_85 v36 σ28)
  else
  ((zg_i σ28 r27 7 3).bind fun v33 =>
  zf_TL_statements_85 v33 σ28))))))
set_option maxRecDepth 100000 in
set_option maxHeartbeats 4000000 in
theorem zm_TL_statements {l : Launch} {D : va_G} {ca : Nat → ClassId} {n0 : Nat} {ay0 : Nat} {xy1 : Int32} {xy2 : Int32} {xy3 : Int32} {xy4 : Int32} {σ σ' : za_h} {r : Int32} (h : zf_TL_statements ay0 xy1 xy2 xy3 xy4 σ = some (r, σ')) : Met l zy_TL_statements (za_wy zy_TL_statements zc_TL_statements 6 (some .int)) { frames := 2, cells := 0, slots := 0, locals := 43 } (za_Pc D ca n0 [.ref ay0, .int xy1, .int xy2, .int xy3, .int xy4] σ) (za_Qi D ca n0 r σ') 0 0 (za_A n0) := by
  refine za_met (by decide) (Nat.le_of_ble_eq_true rfl) ?_
  intro p e s m below meth c ls hx hb hml hr hlk hts hown hnm hK hI hl
  replace hown : s.vm.findClass zR_TL = some m.cls := hown
  replace hl : lv_has ls 6 [(0, .ref ay0), (1, .int xy1), (2, .int xy2), (3, .int xy3), (4, .int xy4)] := hl
  have B34 : ∀ (H : Heap) (locs : List Loc) (ls : Array Slot) (σ : za_h), za_I D ca n0 s σ H locs → lv_has ls 6 [] → zf_TL_statements_34 σ = some (r, σ') → W p l e ({ frames := 2, cells := 0, slots := 0, locals := 43 }) s m ([.ref ay0, .int xy1, .int xy2, .int xy3, .int xy4] : List Value).toArray below meth c H locs 0 0 (MQ below (za_Qi D ca n0 r σ') ([.ref ay0, .int xy1, .int xy2, .int xy3, .int xy4] : List Value).toArray s 0 0 (za_A n0)) (F0 m 34 ls []) := by
    intro H locs ls σ hI hl h
    unfold zf_TL_statements_34 at h
    refine lv_iconst (v := -1) hx hb zd_TL_statements_34 (by decide) ?_
    exact za_iret hx hb hr hlk hI h (Nat.le_of_ble_eq_true rfl) (Nat.le_of_ble_eq_true rfl) zd_TL_statements_35
  have B85 : ∀ (H : Heap) (locs : List Loc) (ls : Array Slot) (xs0 : Int32) (σ : za_h), za_I D ca n0 s σ H locs → lv_has ls 6 [] → zf_TL_statements_85 xs0 σ = some (r, σ') → W p l e ({ frames := 2, cells := 0, slots := 0, locals := 43 }) s m ([.ref ay0, .int xy1, .int xy2, .int xy3, .int xy4] : List Value).toArray below meth c H locs 0 0 (MQ below (za_Qi D ca n0 r σ') ([.ref ay0, .int xy1, .int xy2, .int xy3, .int xy4] : List Value).toArray s 0 0 (za_A n0)) (F0 m 85 ls [.int xs0]) := by
    intro H locs ls xs0 σ hI hl h
    unfold zf_TL_statements_85 at h
    exact za_iret hx hb hr hlk hI h (Nat.le_of_ble_eq_true rfl) (Nat.le_of_ble_eq_true rfl) zd_TL_statements_85
  unfold zf_TL_statements at h
  refine lv_aload_n hx hb zd_TL_statements_0 rfl (lv_at hl 0 rfl) ?_
  refine lv_iload_n hx hb zd_TL_statements_1 rfl (lv_at hl 1 rfl) ?_
  obtain ⟨_, g1, h⟩ := zb_o h
  obtain ⟨⟨r2, σ3⟩, e4, h⟩ := zb_o h
  refine za_calli (za_runV hx hb hml hown hts hK hI g1 (zm_TL_isGood e4) zj_TL_107 ⟨rfl, rfl⟩ ⟨Nat.le_of_ble_eq_true rfl, Nat.le_of_ble_eq_true rfl⟩ rfl hl.1 rfl (Nat.le_of_ble_eq_true rfl) zd_TL_statements_2 ⟨Nat.le_of_ble_eq_true rfl, Nat.le_of_ble_eq_true rfl⟩) hI (fun H locs hI => ?_)
  refine lv_if_eq hx hb (tgt := 34) zd_TL_statements_5 (by decide) (fun c5 => ?_) (fun c5 => ?_)
  · replace h := zb_t c5 h
    exact B34 _ _ ls σ3 hI (lv_sub hl [] rfl) h
  · replace h := zb_f c5 h
    refine lv_iload_n hx hb zd_TL_statements_8 rfl (lv_at hl 2 rfl) ?_
    obtain ⟨⟨r6, σ7⟩, e8, h⟩ := zb_o h
    refine za_calli (za_runS hx hb hml hown hts hK hI (zm_TL_isSlot e8) zj_TL_59 ⟨rfl, rfl⟩ ⟨Nat.le_of_ble_eq_true rfl, Nat.le_of_ble_eq_true rfl⟩ rfl hl.1 rfl (Nat.le_of_ble_eq_true rfl) zd_TL_statements_9 ⟨Nat.le_of_ble_eq_true rfl, Nat.le_of_ble_eq_true rfl⟩) hI (fun H locs hI => ?_)
    refine lv_if_eq hx hb (tgt := 34) zd_TL_statements_12 (by decide) (fun c9 => ?_) (fun c9 => ?_)
    · replace h := zb_t c9 h
      exact B34 _ _ ls σ7 hI (lv_sub hl [] rfl) h
    · replace h := zb_f c9 h
      refine lv_iload_n hx hb zd_TL_statements_15 rfl (lv_at hl 3 rfl) ?_
      refine lv_iconst (v := nI 0) hx hb zd_TL_statements_16 (by decide) ?_
      refine lv_iconst (v := nI 2) hx hb zd_TL_statements_17 (by decide) ?_
      obtain ⟨⟨r10, σ11⟩, e12, h⟩ := zb_o h
      refine za_calli (za_runS hx hb hml hown hts hK hI (zm_TL_isWithin e12) zj_TL_41 ⟨rfl, rfl⟩ ⟨Nat.le_of_ble_eq_true rfl, Nat.le_of_ble_eq_true rfl⟩ rfl hl.1 rfl (Nat.le_of_ble_eq_true rfl) zd_TL_statements_18 ⟨Nat.le_of_ble_eq_true rfl, Nat.le_of_ble_eq_true rfl⟩) hI (fun H locs hI => ?_)
      refine lv_if_eq hx hb (tgt := 34) zd_TL_statements_21 (by decide) (fun c13 => ?_) (fun c13 => ?_)
      · replace h := zb_t c13 h
        exact B34 _ _ ls σ11 hI (lv_sub hl [] rfl) h
      · replace h := zb_f c13 h
        refine lv_iload hx hb zd_TL_statements_24 (lv_at hl 4 rfl) ?_
        refine lv_iconst (v := nI 0) hx hb zd_TL_statements_26 (by decide) ?_
        refine lv_iconst (v := nI 2) hx hb zd_TL_statements_27 (by decide) ?_
        obtain ⟨⟨r14, σ15⟩, e16, h⟩ := zb_o h
        refine za_calli (za_runS hx hb hml hown hts hK hI (zm_TL_isWithin e16) zj_TL_41 ⟨rfl, rfl⟩ ⟨Nat.le_of_ble_eq_true rfl, Nat.le_of_ble_eq_true rfl⟩ rfl hl.1 rfl (Nat.le_of_ble_eq_true rfl) zd_TL_statements_28 ⟨Nat.le_of_ble_eq_true rfl, Nat.le_of_ble_eq_true rfl⟩) hI (fun H locs hI => ?_)
        refine lv_if_ne hx hb (tgt := 36) zd_TL_statements_31 (by decide) (fun c17 => ?_) (fun c17 => ?_)
        · replace h := zb_f c17 h
          refine lv_aload_n hx hb zd_TL_statements_36 rfl (lv_at hl 0 rfl) ?_
          obtain ⟨b19, e18, h⟩ := zb_o h
          refine za_getr hx hb hts hown hK hI zl_TL_22 e18 zd_TL_statements_37 ?_
          refine lv_iload_n hx hb zd_TL_statements_40 rfl (lv_at hl 1 rfl) ?_
          obtain ⟨b20, e21, h⟩ := zb_o h
          refine za_aaln hx hb hK hI (t := 4) rfl e21 zd_TL_statements_41 ?_
          obtain ⟨b23, e22, h⟩ := zb_o h
          refine za_getr hx hb hts hown hK hI zl_TL_75 e22 zd_TL_statements_42 ?_
          refine lv_iload_n hx hb zd_TL_statements_45 rfl (lv_at hl 2 rfl) ?_
          obtain ⟨b24, e25, h⟩ := zb_o h
          refine za_aaln hx hb hK hI (t := 2) rfl e25 zd_TL_statements_46 ?_
          refine lv_iload_n hx hb zd_TL_statements_47 rfl (lv_at hl 3 rfl) ?_
          obtain ⟨_, g26, h⟩ := zb_o h
          obtain ⟨⟨r27, σ28⟩, e29, h⟩ := zb_o h
          refine za_callr (za_runV hx hb hml hown hts hK hI g26 (zm_Agreement_ofKind e29) zj_TL_116 ⟨rfl, rfl⟩ ⟨Nat.le_of_ble_eq_true rfl, Nat.le_of_ble_eq_true rfl⟩ rfl hl.1 rfl (Nat.le_of_ble_eq_true rfl) zd_TL_statements_48 ⟨Nat.le_of_ble_eq_true rfl, Nat.le_of_ble_eq_true rfl⟩) hI (fun H locs hI => ?_)
          refine lv_astore (lv' := [(5, .ref r27), (0, .ref ay0), (1, .int xy1), (2, .int xy2), (3, .int xy3), (4, .int xy4)]) hx hb zd_TL_statements_51 hl (Nat.le_of_ble_eq_true rfl) rfl (fun ls hl => ?_)
          refine lv_iload hx hb zd_TL_statements_53 (lv_at hl 5 rfl) ?_
          refine lv_if_ne hx hb (tgt := 64) zd_TL_statements_55 (by decide) (fun c30 => ?_) (fun c30 => ?_)
          · replace h := zb_f c30 h
            refine lv_iload hx hb zd_TL_statements_64 (lv_at hl 5 rfl) ?_
            refine lv_iconst (v := nI 1) hx hb zd_TL_statements_66 (by decide) ?_
            refine lv_icmp_ne hx hb (tgt := 80) zd_TL_statements_67 (by decide) (fun c31 => ?_) (fun c31 => ?_)
            · replace h := zb_f c31 h
              refine lv_aload hx hb zd_TL_statements_80 (lv_at hl 0 rfl) ?_
              obtain ⟨v33, e32, h⟩ := zb_o h
              refine za_geti hx hb hts hown hK hI zl_TL_158 e32 zd_TL_statements_82 ?_
              exact B85 _ _ ls v33 σ28 hI (lv_sub hl [] rfl) h
            · replace h := zb_t c31 h
              refine lv_aload hx hb zd_TL_statements_70 (lv_at hl 0 rfl) ?_
              obtain ⟨b35, e34, h⟩ := zb_o h
              refine za_getr hx hb hts hown hK hI zl_TL_130 e34 zd_TL_statements_72 ?_
              refine lv_iload_n hx hb zd_TL_statements_75 rfl (lv_at hl 2 rfl) ?_
              obtain ⟨v36, e37, h⟩ := zb_o h
              refine za_iald hx hb hK hI e37 zd_TL_statements_76 ?_
              refine lv_goto hx hb (tgt := 85) zd_TL_statements_77 (by decide) ?_
              exact B85 _ _ ls v36 σ28 hI (lv_sub hl [] rfl) h
          · replace h := zb_t c30 h
            refine lv_aload hx hb zd_TL_statements_58 (lv_at hl 0 rfl) ?_
            obtain ⟨v39, e38, h⟩ := zb_o h
            refine za_geti hx hb hts hown hK hI zl_TL_155 e38 zd_TL_statements_60 ?_
            exact za_iret hx hb hr hlk hI h (Nat.le_of_ble_eq_true rfl) (Nat.le_of_ble_eq_true rfl) zd_TL_statements_63
        · replace h := zb_t c17 h
          exact B34 _ _ ls σ15 hI (lv_sub hl [] rfl) h

def zf_TL_value_33 (xs0 : Int32) (σ : za_h) : Option (Int32 × za_h) :=
  some (xs0, σ)

def zf_TL_value_32  (σ : za_h) : Option (Int32 × za_h) :=
  zf_TL_value_33 (-1) σ

def zf_TL_value (ay0 : Nat) (xy1 : Int32) (xy2 : Int32) (σ : za_h) : Option (Int32 × za_h) :=
  (zg_c σ ay0 0).bind fun _ =>
  (zf_TL_isGood ay0 xy1 σ).bind fun (r2, σ3) =>
  if r2 = 0 then
  (zf_TL_value_32 σ3)
  else
  ((zf_TL_isSlot xy2 σ3).bind fun (r6, σ7) =>
  if r6 = 0 then
  (zf_TL_value_32 σ7)
  else
  ((zg_r σ7 ay0 0 2).bind fun b11 =>
  (za_ln σ7 b11 4 xy1).bind fun b12 =>
  (zg_r σ7 b12 4 0).bind fun b15 =>
  (za_ln σ7 b15 2 xy2).bind fun b16 =>
  (zg_i σ7 b16 1 10).bind fun v19 =>
  zf_TL_value_33 v19 σ7))
set_option maxRecDepth 100000 in
set_option maxHeartbeats 4000000 in
theorem zm_TL_value {l : Launch} {D : va_G} {ca : Nat → ClassId} {n0 : Nat} {ay0 : Nat} {xy1 : Int32} {xy2 : Int32} {σ σ' : za_h} {r : Int32} (h : zf_TL_value ay0 xy1 xy2 σ = some (r, σ')) : Met l zy_TL_value (za_wy zy_TL_value zc_TL_value 3 (some .int)) { frames := 2, cells := 0, slots := 0, locals := 43 } (za_Pc D ca n0 [.ref ay0, .int xy1, .int xy2] σ) (za_Qi D ca n0 r σ') 0 0 (za_A n0) := by
  refine za_met (by decide) (Nat.le_of_ble_eq_true rfl) ?_
  intro p e s m below meth c ls hx hb hml hr hlk hts hown hnm hK hI hl
  replace hown : s.vm.findClass zR_TL = some m.cls := hown
  replace hl : lv_has ls 3 [(0, .ref ay0), (1, .int xy1), (2, .int xy2)] := hl
  have B33 : ∀ (H : Heap) (locs : List Loc) (ls : Array Slot) (xs0 : Int32) (σ : za_h), za_I D ca n0 s σ H locs → lv_has ls 3 [] → zf_TL_value_33 xs0 σ = some (r, σ') → W p l e ({ frames := 2, cells := 0, slots := 0, locals := 43 }) s m ([.ref ay0, .int xy1, .int xy2] : List Value).toArray below meth c H locs 0 0 (MQ below (za_Qi D ca n0 r σ') ([.ref ay0, .int xy1, .int xy2] : List Value).toArray s 0 0 (za_A n0)) (F0 m 33 ls [.int xs0]) := by
    intro H locs ls xs0 σ hI hl h
    unfold zf_TL_value_33 at h
    exact za_iret hx hb hr hlk hI h (Nat.le_of_ble_eq_true rfl) (Nat.le_of_ble_eq_true rfl) zd_TL_value_33
  have B32 : ∀ (H : Heap) (locs : List Loc) (ls : Array Slot) (σ : za_h), za_I D ca n0 s σ H locs → lv_has ls 3 [] → zf_TL_value_32 σ = some (r, σ') → W p l e ({ frames := 2, cells := 0, slots := 0, locals := 43 }) s m ([.ref ay0, .int xy1, .int xy2] : List Value).toArray below meth c H locs 0 0 (MQ below (za_Qi D ca n0 r σ') ([.ref ay0, .int xy1, .int xy2] : List Value).toArray s 0 0 (za_A n0)) (F0 m 32 ls []) := by
    intro H locs ls σ hI hl h
    unfold zf_TL_value_32 at h
    refine lv_iconst (v := -1) hx hb zd_TL_value_32 (by decide) ?_
    exact B33 _ _ ls (-1) σ hI (lv_sub hl [] rfl) h
  unfold zf_TL_value at h
  refine lv_aload_n hx hb zd_TL_value_0 rfl (lv_at hl 0 rfl) ?_
  refine lv_iload_n hx hb zd_TL_value_1 rfl (lv_at hl 1 rfl) ?_
  obtain ⟨_, g1, h⟩ := zb_o h
  obtain ⟨⟨r2, σ3⟩, e4, h⟩ := zb_o h
  refine za_calli (za_runV hx hb hml hown hts hK hI g1 (zm_TL_isGood e4) zj_TL_107 ⟨rfl, rfl⟩ ⟨Nat.le_of_ble_eq_true rfl, Nat.le_of_ble_eq_true rfl⟩ rfl hl.1 rfl (Nat.le_of_ble_eq_true rfl) zd_TL_value_2 ⟨Nat.le_of_ble_eq_true rfl, Nat.le_of_ble_eq_true rfl⟩) hI (fun H locs hI => ?_)
  refine lv_if_eq hx hb (tgt := 32) zd_TL_value_5 (by decide) (fun c5 => ?_) (fun c5 => ?_)
  · replace h := zb_t c5 h
    exact B32 _ _ ls σ3 hI (lv_sub hl [] rfl) h
  · replace h := zb_f c5 h
    refine lv_iload_n hx hb zd_TL_value_8 rfl (lv_at hl 2 rfl) ?_
    obtain ⟨⟨r6, σ7⟩, e8, h⟩ := zb_o h
    refine za_calli (za_runS hx hb hml hown hts hK hI (zm_TL_isSlot e8) zj_TL_59 ⟨rfl, rfl⟩ ⟨Nat.le_of_ble_eq_true rfl, Nat.le_of_ble_eq_true rfl⟩ rfl hl.1 rfl (Nat.le_of_ble_eq_true rfl) zd_TL_value_9 ⟨Nat.le_of_ble_eq_true rfl, Nat.le_of_ble_eq_true rfl⟩) hI (fun H locs hI => ?_)
    refine lv_if_eq hx hb (tgt := 32) zd_TL_value_12 (by decide) (fun c9 => ?_) (fun c9 => ?_)
    · replace h := zb_t c9 h
      exact B32 _ _ ls σ7 hI (lv_sub hl [] rfl) h
    · replace h := zb_f c9 h
      refine lv_aload_n hx hb zd_TL_value_15 rfl (lv_at hl 0 rfl) ?_
      obtain ⟨b11, e10, h⟩ := zb_o h
      refine za_getr hx hb hts hown hK hI zl_TL_22 e10 zd_TL_value_16 ?_
      refine lv_iload_n hx hb zd_TL_value_19 rfl (lv_at hl 1 rfl) ?_
      obtain ⟨b12, e13, h⟩ := zb_o h
      refine za_aaln hx hb hK hI (t := 4) rfl e13 zd_TL_value_20 ?_
      obtain ⟨b15, e14, h⟩ := zb_o h
      refine za_getr hx hb hts hown hK hI zl_TL_75 e14 zd_TL_value_21 ?_
      refine lv_iload_n hx hb zd_TL_value_24 rfl (lv_at hl 2 rfl) ?_
      obtain ⟨b16, e17, h⟩ := zb_o h
      refine za_aaln hx hb hK hI (t := 2) rfl e17 zd_TL_value_25 ?_
      obtain ⟨v19, e18, h⟩ := zb_o h
      refine za_geti hx hb hts hown hK hI zl_TL_94 e18 zd_TL_value_26 ?_
      refine lv_goto hx hb (tgt := 33) zd_TL_value_29 (by decide) ?_
      exact B33 _ _ ls v19 σ7 hI (lv_sub hl [] rfl) h

def zf_TL_header_21 (xs0 : Int32) (σ : za_h) : Option (Int32 × za_h) :=
  some (xs0, σ)

def zf_TL_header (ay0 : Nat) (xy1 : Int32) (σ : za_h) : Option (Int32 × za_h) :=
  (zg_c σ ay0 0).bind fun _ =>
  (zf_TL_isGood ay0 xy1 σ).bind fun (r2, σ3) =>
  if r2 = 0 then
  (zf_TL_header_21 (nI 0) σ3)
  else
  ((zg_r σ3 ay0 0 2).bind fun b7 =>
  (za_ln σ3 b7 4 xy1).bind fun b8 =>
  (zg_i σ3 b8 4 3).bind fun v11 =>
  zf_TL_header_21 v11 σ3)
set_option maxRecDepth 100000 in
set_option maxHeartbeats 4000000 in
theorem zm_TL_header {l : Launch} {D : va_G} {ca : Nat → ClassId} {n0 : Nat} {ay0 : Nat} {xy1 : Int32} {σ σ' : za_h} {r : Int32} (h : zf_TL_header ay0 xy1 σ = some (r, σ')) : Met l zy_TL_header (za_wy zy_TL_header zc_TL_header 2 (some .int)) { frames := 2, cells := 0, slots := 0, locals := 43 } (za_Pc D ca n0 [.ref ay0, .int xy1] σ) (za_Qi D ca n0 r σ') 0 0 (za_A n0) := by
  refine za_met (by decide) (Nat.le_of_ble_eq_true rfl) ?_
  intro p e s m below meth c ls hx hb hml hr hlk hts hown hnm hK hI hl
  replace hown : s.vm.findClass zR_TL = some m.cls := hown
  replace hl : lv_has ls 2 [(0, .ref ay0), (1, .int xy1)] := hl
  have B21 : ∀ (H : Heap) (locs : List Loc) (ls : Array Slot) (xs0 : Int32) (σ : za_h), za_I D ca n0 s σ H locs → lv_has ls 2 [] → zf_TL_header_21 xs0 σ = some (r, σ') → W p l e ({ frames := 2, cells := 0, slots := 0, locals := 43 }) s m ([.ref ay0, .int xy1] : List Value).toArray below meth c H locs 0 0 (MQ below (za_Qi D ca n0 r σ') ([.ref ay0, .int xy1] : List Value).toArray s 0 0 (za_A n0)) (F0 m 21 ls [.int xs0]) := by
    intro H locs ls xs0 σ hI hl h
    unfold zf_TL_header_21 at h
    exact za_iret hx hb hr hlk hI h (Nat.le_of_ble_eq_true rfl) (Nat.le_of_ble_eq_true rfl) zd_TL_header_21
  unfold zf_TL_header at h
  refine lv_aload_n hx hb zd_TL_header_0 rfl (lv_at hl 0 rfl) ?_
  refine lv_iload_n hx hb zd_TL_header_1 rfl (lv_at hl 1 rfl) ?_
  obtain ⟨_, g1, h⟩ := zb_o h
  obtain ⟨⟨r2, σ3⟩, e4, h⟩ := zb_o h
  refine za_calli (za_runV hx hb hml hown hts hK hI g1 (zm_TL_isGood e4) zj_TL_107 ⟨rfl, rfl⟩ ⟨Nat.le_of_ble_eq_true rfl, Nat.le_of_ble_eq_true rfl⟩ rfl hl.1 rfl (Nat.le_of_ble_eq_true rfl) zd_TL_header_2 ⟨Nat.le_of_ble_eq_true rfl, Nat.le_of_ble_eq_true rfl⟩) hI (fun H locs hI => ?_)
  refine lv_if_eq hx hb (tgt := 20) zd_TL_header_5 (by decide) (fun c5 => ?_) (fun c5 => ?_)
  · replace h := zb_t c5 h
    refine lv_iconst (v := nI 0) hx hb zd_TL_header_20 (by decide) ?_
    exact B21 _ _ ls (nI 0) σ3 hI (lv_sub hl [] rfl) h
  · replace h := zb_f c5 h
    refine lv_aload_n hx hb zd_TL_header_8 rfl (lv_at hl 0 rfl) ?_
    obtain ⟨b7, e6, h⟩ := zb_o h
    refine za_getr hx hb hts hown hK hI zl_TL_22 e6 zd_TL_header_9 ?_
    refine lv_iload_n hx hb zd_TL_header_12 rfl (lv_at hl 1 rfl) ?_
    obtain ⟨b8, e9, h⟩ := zb_o h
    refine za_aaln hx hb hK hI (t := 4) rfl e9 zd_TL_header_13 ?_
    obtain ⟨v11, e10, h⟩ := zb_o h
    refine za_geti hx hb hts hown hK hI zl_TL_161 e10 zd_TL_header_14 ?_
    refine lv_goto hx hb (tgt := 21) zd_TL_header_17 (by decide) ?_
    exact B21 _ _ ls v11 σ3 hI (lv_sub hl [] rfl) h

def zf_TL_balance_24  (σ : za_h) : Option (Int32 × za_h) :=
  some ((-1), σ)

def zf_TL_balance (ay0 : Nat) (xy1 : Int32) (xy2 : Int32) (xy3 : Int32) (σ : za_h) : Option (Int32 × za_h) :=
  (zg_c σ ay0 0).bind fun _ =>
  (zf_TL_isGood ay0 xy1 σ).bind fun (r2, σ3) =>
  if r2 = 0 then
  (zf_TL_balance_24 σ3)
  else
  ((zf_TL_isAccount xy2 σ3).bind fun (r6, σ7) =>
  if r6 = 0 then
  (zf_TL_balance_24 σ7)
  else
  ((zf_TL_isWithin xy3 (nI 0) (nI 1) σ7).bind fun (r10, σ11) =>
  if r10 = 0 then
  (zf_TL_balance_24 σ11)
  else
  ((zg_r σ11 ay0 0 2).bind fun b15 =>
  (za_ln σ11 b15 4 xy1).bind fun b16 =>
  (zg_r σ11 b16 4 1).bind fun b19 =>
  (zg_c σ11 b19 3).bind fun _ =>
  (zf_Ledger_holdings b19 xy3 σ11).bind fun (r21, σ22) =>
  (za_ld σ22 r21 0 xy2).bind fun v24 =>
  some (v24, σ22))))
set_option maxRecDepth 100000 in
set_option maxHeartbeats 4000000 in
theorem zm_TL_balance {l : Launch} {D : va_G} {ca : Nat → ClassId} {n0 : Nat} {ay0 : Nat} {xy1 : Int32} {xy2 : Int32} {xy3 : Int32} {σ σ' : za_h} {r : Int32} (h : zf_TL_balance ay0 xy1 xy2 xy3 σ = some (r, σ')) : Met l zy_TL_balance (za_wy zy_TL_balance zc_TL_balance 4 (some .int)) { frames := 2, cells := 0, slots := 0, locals := 43 } (za_Pc D ca n0 [.ref ay0, .int xy1, .int xy2, .int xy3] σ) (za_Qi D ca n0 r σ') 0 0 (za_A n0) := by
  refine za_met (by decide) (Nat.le_of_ble_eq_true rfl) ?_
  intro p e s m below meth c ls hx hb hml hr hlk hts hown hnm hK hI hl
  replace hown : s.vm.findClass zR_TL = some m.cls := hown
  replace hl : lv_has ls 4 [(0, .ref ay0), (1, .int xy1), (2, .int xy2), (3, .int xy3)] := hl
  have B24 : ∀ (H : Heap) (locs : List Loc) (ls : Array Slot) (σ : za_h), za_I D ca n0 s σ H locs → lv_has ls 4 [] → zf_TL_balance_24 σ = some (r, σ') → W p l e ({ frames := 2, cells := 0, slots := 0, locals := 43 }) s m ([.ref ay0, .int xy1, .int xy2, .int xy3] : List Value).toArray below meth c H locs 0 0 (MQ below (za_Qi D ca n0 r σ') ([.ref ay0, .int xy1, .int xy2, .int xy3] : List Value).toArray s 0 0 (za_A n0)) (F0 m 24 ls []) := by
    intro H locs ls σ hI hl h
    unfold zf_TL_balance_24 at h
    refine lv_iconst (v := -1) hx hb zd_TL_balance_24 (by decide) ?_
    exact za_iret hx hb hr hlk hI h (Nat.le_of_ble_eq_true rfl) (Nat.le_of_ble_eq_true rfl) zd_TL_balance_25
  unfold zf_TL_balance at h
  refine lv_aload_n hx hb zd_TL_balance_0 rfl (lv_at hl 0 rfl) ?_
  refine lv_iload_n hx hb zd_TL_balance_1 rfl (lv_at hl 1 rfl) ?_
  obtain ⟨_, g1, h⟩ := zb_o h
  obtain ⟨⟨r2, σ3⟩, e4, h⟩ := zb_o h
  refine za_calli (za_runV hx hb hml hown hts hK hI g1 (zm_TL_isGood e4) zj_TL_107 ⟨rfl, rfl⟩ ⟨Nat.le_of_ble_eq_true rfl, Nat.le_of_ble_eq_true rfl⟩ rfl hl.1 rfl (Nat.le_of_ble_eq_true rfl) zd_TL_balance_2 ⟨Nat.le_of_ble_eq_true rfl, Nat.le_of_ble_eq_true rfl⟩) hI (fun H locs hI => ?_)
  refine lv_if_eq hx hb (tgt := 24) zd_TL_balance_5 (by decide) (fun c5 => ?_) (fun c5 => ?_)
  · replace h := zb_t c5 h
    exact B24 _ _ ls σ3 hI (lv_sub hl [] rfl) h
  · replace h := zb_f c5 h
    refine lv_iload_n hx hb zd_TL_balance_8 rfl (lv_at hl 2 rfl) ?_
    obtain ⟨⟨r6, σ7⟩, e8, h⟩ := zb_o h
    refine za_calli (za_runS hx hb hml hown hts hK hI (zm_TL_isAccount e8) zj_TL_63 ⟨rfl, rfl⟩ ⟨Nat.le_of_ble_eq_true rfl, Nat.le_of_ble_eq_true rfl⟩ rfl hl.1 rfl (Nat.le_of_ble_eq_true rfl) zd_TL_balance_9 ⟨Nat.le_of_ble_eq_true rfl, Nat.le_of_ble_eq_true rfl⟩) hI (fun H locs hI => ?_)
    refine lv_if_eq hx hb (tgt := 24) zd_TL_balance_12 (by decide) (fun c9 => ?_) (fun c9 => ?_)
    · replace h := zb_t c9 h
      exact B24 _ _ ls σ7 hI (lv_sub hl [] rfl) h
    · replace h := zb_f c9 h
      refine lv_iload_n hx hb zd_TL_balance_15 rfl (lv_at hl 3 rfl) ?_
      refine lv_iconst (v := nI 0) hx hb zd_TL_balance_16 (by decide) ?_
      refine lv_iconst (v := nI 1) hx hb zd_TL_balance_17 (by decide) ?_
      obtain ⟨⟨r10, σ11⟩, e12, h⟩ := zb_o h
      refine za_calli (za_runS hx hb hml hown hts hK hI (zm_TL_isWithin e12) zj_TL_41 ⟨rfl, rfl⟩ ⟨Nat.le_of_ble_eq_true rfl, Nat.le_of_ble_eq_true rfl⟩ rfl hl.1 rfl (Nat.le_of_ble_eq_true rfl) zd_TL_balance_18 ⟨Nat.le_of_ble_eq_true rfl, Nat.le_of_ble_eq_true rfl⟩) hI (fun H locs hI => ?_)
      refine lv_if_ne hx hb (tgt := 26) zd_TL_balance_21 (by decide) (fun c13 => ?_) (fun c13 => ?_)
      · replace h := zb_f c13 h
        refine lv_aload_n hx hb zd_TL_balance_26 rfl (lv_at hl 0 rfl) ?_
        obtain ⟨b15, e14, h⟩ := zb_o h
        refine za_getr hx hb hts hown hK hI zl_TL_22 e14 zd_TL_balance_27 ?_
        refine lv_iload_n hx hb zd_TL_balance_30 rfl (lv_at hl 1 rfl) ?_
        obtain ⟨b16, e17, h⟩ := zb_o h
        refine za_aaln hx hb hK hI (t := 4) rfl e17 zd_TL_balance_31 ?_
        obtain ⟨b19, e18, h⟩ := zb_o h
        refine za_getr hx hb hts hown hK hI zl_TL_164 e18 zd_TL_balance_32 ?_
        refine lv_iload_n hx hb zd_TL_balance_35 rfl (lv_at hl 3 rfl) ?_
        obtain ⟨_, g20, h⟩ := zb_o h
        obtain ⟨⟨r21, σ22⟩, e23, h⟩ := zb_o h
        refine za_callr (za_runV hx hb hml hown hts hK hI g20 (zm_Ledger_holdings e23) zj_TL_168 ⟨rfl, rfl⟩ ⟨Nat.le_of_ble_eq_true rfl, Nat.le_of_ble_eq_true rfl⟩ rfl hl.1 rfl (Nat.le_of_ble_eq_true rfl) zd_TL_balance_36 ⟨Nat.le_of_ble_eq_true rfl, Nat.le_of_ble_eq_true rfl⟩) hI (fun H locs hI => ?_)
        refine lv_iload_n hx hb zd_TL_balance_39 rfl (lv_at hl 2 rfl) ?_
        obtain ⟨v24, e25, h⟩ := zb_o h
        refine za_iald hx hb hK hI e25 zd_TL_balance_40 ?_
        exact za_iret hx hb hr hlk hI h (Nat.le_of_ble_eq_true rfl) (Nat.le_of_ble_eq_true rfl) zd_TL_balance_41
      · replace h := zb_t c13 h
        exact B24 _ _ ls σ11 hI (lv_sub hl [] rfl) h

def zf_TL_offer_18  (σ : za_h) : Option (Int32 × za_h) :=
  some ((-1), σ)

def zf_TL_offer (ay0 : Nat) (xy1 : Int32) (xy2 : Int32) (σ : za_h) : Option (Int32 × za_h) :=
  (zg_c σ ay0 0).bind fun _ =>
  (zf_TL_isGood ay0 xy1 σ).bind fun (r2, σ3) =>
  if r2 = 0 then
  (zf_TL_offer_18 σ3)
  else
  ((zf_TL_isWithin xy2 (nI 0) (nI 7) σ3).bind fun (r6, σ7) =>
  if r6 = 0 then
  (zf_TL_offer_18 σ7)
  else
  ((zg_r σ7 ay0 0 2).bind fun b11 =>
  (za_ln σ7 b11 4 xy1).bind fun b12 =>
  (zg_r σ7 b12 4 1).bind fun b15 =>
  (zg_r σ7 b15 3 2).bind fun b17 =>
  (za_lq σ7 b17 5 xy2).bind fun w18 =>
  match w18 with
  | none => (some ((-1), σ7))
  | some u21 => ((zg_i σ7 u21 5 0).bind fun v23 =>
  (zg_i σ7 u21 5 1).bind fun v25 =>
  (zg_i σ7 u21 5 2).bind fun v27 =>
  (zg_i σ7 u21 5 3).bind fun v29 =>
  some ((((v23 + ((nI 4) * v25)) + ((nI 16) * v27)) + ((nI 256) * v29)), σ7))))
set_option maxRecDepth 100000 in
set_option maxHeartbeats 4000000 in
theorem zm_TL_offer {l : Launch} {D : va_G} {ca : Nat → ClassId} {n0 : Nat} {ay0 : Nat} {xy1 : Int32} {xy2 : Int32} {σ σ' : za_h} {r : Int32} (h : zf_TL_offer ay0 xy1 xy2 σ = some (r, σ')) : Met l zy_TL_offer (za_wy zy_TL_offer zc_TL_offer 4 (some .int)) { frames := 2, cells := 0, slots := 0, locals := 43 } (za_Pc D ca n0 [.ref ay0, .int xy1, .int xy2] σ) (za_Qi D ca n0 r σ') 0 0 (za_A n0) := by
  refine za_met (by decide) (Nat.le_of_ble_eq_true rfl) ?_
  intro p e s m below meth c ls hx hb hml hr hlk hts hown hnm hK hI hl
  replace hown : s.vm.findClass zR_TL = some m.cls := hown
  replace hl : lv_has ls 4 [(0, .ref ay0), (1, .int xy1), (2, .int xy2)] := hl
  have B18 : ∀ (H : Heap) (locs : List Loc) (ls : Array Slot) (σ : za_h), za_I D ca n0 s σ H locs → lv_has ls 4 [] → zf_TL_offer_18 σ = some (r, σ') → W p l e ({ frames := 2, cells := 0, slots := 0, locals := 43 }) s m ([.ref ay0, .int xy1, .int xy2] : List Value).toArray below meth c H locs 0 0 (MQ below (za_Qi D ca n0 r σ') ([.ref ay0, .int xy1, .int xy2] : List Value).toArray s 0 0 (za_A n0)) (F0 m 18 ls []) := by
    intro H locs ls σ hI hl h
    unfold zf_TL_offer_18 at h
    refine lv_iconst (v := -1) hx hb zd_TL_offer_18 (by decide) ?_
    exact za_iret hx hb hr hlk hI h (Nat.le_of_ble_eq_true rfl) (Nat.le_of_ble_eq_true rfl) zd_TL_offer_19
  unfold zf_TL_offer at h
  refine lv_aload_n hx hb zd_TL_offer_0 rfl (lv_at hl 0 rfl) ?_
  refine lv_iload_n hx hb zd_TL_offer_1 rfl (lv_at hl 1 rfl) ?_
  obtain ⟨_, g1, h⟩ := zb_o h
  obtain ⟨⟨r2, σ3⟩, e4, h⟩ := zb_o h
  refine za_calli (za_runV hx hb hml hown hts hK hI g1 (zm_TL_isGood e4) zj_TL_107 ⟨rfl, rfl⟩ ⟨Nat.le_of_ble_eq_true rfl, Nat.le_of_ble_eq_true rfl⟩ rfl hl.1 rfl (Nat.le_of_ble_eq_true rfl) zd_TL_offer_2 ⟨Nat.le_of_ble_eq_true rfl, Nat.le_of_ble_eq_true rfl⟩) hI (fun H locs hI => ?_)
  refine lv_if_eq hx hb (tgt := 18) zd_TL_offer_5 (by decide) (fun c5 => ?_) (fun c5 => ?_)
  · replace h := zb_t c5 h
    exact B18 _ _ ls σ3 hI (lv_sub hl [] rfl) h
  · replace h := zb_f c5 h
    refine lv_iload_n hx hb zd_TL_offer_8 rfl (lv_at hl 2 rfl) ?_
    refine lv_iconst (v := nI 0) hx hb zd_TL_offer_9 (by decide) ?_
    refine lv_bipush (v := nI 7) hx hb zd_TL_offer_10 (by decide) ?_
    obtain ⟨⟨r6, σ7⟩, e8, h⟩ := zb_o h
    refine za_calli (za_runS hx hb hml hown hts hK hI (zm_TL_isWithin e8) zj_TL_41 ⟨rfl, rfl⟩ ⟨Nat.le_of_ble_eq_true rfl, Nat.le_of_ble_eq_true rfl⟩ rfl hl.1 rfl (Nat.le_of_ble_eq_true rfl) zd_TL_offer_12 ⟨Nat.le_of_ble_eq_true rfl, Nat.le_of_ble_eq_true rfl⟩) hI (fun H locs hI => ?_)
    refine lv_if_ne hx hb (tgt := 20) zd_TL_offer_15 (by decide) (fun c9 => ?_) (fun c9 => ?_)
    · replace h := zb_f c9 h
      refine lv_aload_n hx hb zd_TL_offer_20 rfl (lv_at hl 0 rfl) ?_
      obtain ⟨b11, e10, h⟩ := zb_o h
      refine za_getr hx hb hts hown hK hI zl_TL_22 e10 zd_TL_offer_21 ?_
      refine lv_iload_n hx hb zd_TL_offer_24 rfl (lv_at hl 1 rfl) ?_
      obtain ⟨b12, e13, h⟩ := zb_o h
      refine za_aaln hx hb hK hI (t := 4) rfl e13 zd_TL_offer_25 ?_
      obtain ⟨b15, e14, h⟩ := zb_o h
      refine za_getr hx hb hts hown hK hI zl_TL_164 e14 zd_TL_offer_26 ?_
      obtain ⟨b17, e16, h⟩ := zb_o h
      refine za_getr hx hb hts hown hK hI zl_TL_174 e16 zd_TL_offer_29 ?_
      refine lv_iload_n hx hb zd_TL_offer_32 rfl (lv_at hl 2 rfl) ?_
      obtain ⟨w18, e19, h⟩ := zb_o h
      refine za_aald hx hb hK hI (t := 5) rfl e19 zd_TL_offer_33 ?_
      refine za_astore_n (lv' := [(3, va_rf w18), (0, .ref ay0), (1, .int xy1), (2, .int xy2)]) hx hb zd_TL_offer_34 rfl hl (Nat.le_of_ble_eq_true rfl) rfl (fun ls hl => ?_)
      refine za_aload_n hx hb zd_TL_offer_35 rfl (lv_at hl 0 rfl) ?_
      refine za_ifnonnull hx hb (tgt := 41) zd_TL_offer_36 (by decide) (fun u21 c20 => ?_) (fun c20 => ?_)
      · subst c20
        refine lv_aload_n hx hb zd_TL_offer_41 rfl (lv_at hl 0 rfl) ?_
        obtain ⟨v23, e22, h⟩ := zb_o h
        refine za_geti hx hb hts hown hK hI zl_TL_178 e22 zd_TL_offer_42 ?_
        refine lv_iconst (v := nI 4) hx hb zd_TL_offer_45 (by decide) ?_
        refine lv_aload_n hx hb zd_TL_offer_46 rfl (lv_at hl 0 rfl) ?_
        obtain ⟨v25, e24, h⟩ := zb_o h
        refine za_geti hx hb hts hown hK hI zl_TL_183 e24 zd_TL_offer_47 ?_
        refine lv_imul hx hb zd_TL_offer_50 ?_
        refine lv_iadd hx hb zd_TL_offer_51 ?_
        refine lv_bipush (v := nI 16) hx hb zd_TL_offer_52 (by decide) ?_
        refine lv_aload_n hx hb zd_TL_offer_54 rfl (lv_at hl 0 rfl) ?_
        obtain ⟨v27, e26, h⟩ := zb_o h
        refine za_geti hx hb hts hown hK hI zl_TL_186 e26 zd_TL_offer_55 ?_
        refine lv_imul hx hb zd_TL_offer_58 ?_
        refine lv_iadd hx hb zd_TL_offer_59 ?_
        refine lv_sipush (v := nI 256) hx hb zd_TL_offer_60 (by decide) ?_
        refine lv_aload_n hx hb zd_TL_offer_63 rfl (lv_at hl 0 rfl) ?_
        obtain ⟨v29, e28, h⟩ := zb_o h
        refine za_geti hx hb hts hown hK hI zl_TL_189 e28 zd_TL_offer_64 ?_
        refine lv_imul hx hb zd_TL_offer_67 ?_
        refine lv_iadd hx hb zd_TL_offer_68 ?_
        exact za_iret hx hb hr hlk hI h (Nat.le_of_ble_eq_true rfl) (Nat.le_of_ble_eq_true rfl) zd_TL_offer_69
      · subst c20
        refine lv_iconst (v := -1) hx hb zd_TL_offer_39 (by decide) ?_
        exact za_iret hx hb hr hlk hI h (Nat.le_of_ble_eq_true rfl) (Nat.le_of_ble_eq_true rfl) zd_TL_offer_40
    · replace h := zb_t c9 h
      exact B18 _ _ ls σ7 hI (lv_sub hl [] rfl) h
