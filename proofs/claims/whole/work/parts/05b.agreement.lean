def zf_Agreement_init (ay0 : Nat) (xy1 : Int32) (xy2 : Int32) (ay3 : Nat) (σ : za_h) : Option (Unit × za_h) :=
  (zp_f σ ay0 1 0 (.int xy1)).bind fun σ2 =>
  (zp_f σ2 ay0 1 1 (.int xy2)).bind fun σ4 =>
  (zg_r σ4 ay3 6 0).bind fun b6 =>
  (za_ln σ4 b6 7 xy1).bind fun b7 =>
  (zp_f σ4 ay0 1 2 (.ref b7)).bind fun σ10 =>
  (zf_Statements_init σ10.2 xy1 ay3 (za_n σ10 (.inr (7, [.int 0, .null, .int 0, .int 0, .null, .null])))).bind fun (_, σ12) =>
  (zp_f σ12 ay0 1 3 (.ref σ10.2)).bind fun σ15 =>
  (zf_Statements_init σ15.2 xy1 ay3 (za_n σ15 (.inr (7, [.int 0, .null, .int 0, .int 0, .null, .null])))).bind fun (_, σ17) =>
  (zp_f σ17 ay0 1 4 (.ref σ15.2)).bind fun σ20 =>
  (zf_Statements_init σ20.2 xy1 ay3 (za_n σ20 (.inr (7, [.int 0, .null, .int 0, .int 0, .null, .null])))).bind fun (_, σ22) =>
  (zp_f σ22 ay0 1 5 (.ref σ20.2)).bind fun σ25 =>
  some ((), σ25)
set_option maxRecDepth 100000 in
set_option maxHeartbeats 4000000 in
theorem zm_Agreement_init {l : Launch} {D : va_G} {ca : Nat → ClassId} {n0 : Nat} {ay0 : Nat} {xy1 : Int32} {xy2 : Int32} {ay3 : Nat} {σ σ' : za_h} {r : Unit} (h : zf_Agreement_init ay0 xy1 xy2 ay3 σ = some (r, σ')) : Met l zy_Agreement_init (za_wy zy_Agreement_init zc_Agreement_init 4 none) { frames := 2, cells := 9, slots := 48, locals := 42 } (za_Pc D ca n0 [.ref ay0, .int xy1, .int xy2, .ref ay3] σ) (za_Qv D ca n0 r σ') 9 48 (za_A n0) := by
  refine za_met (by decide) (Nat.le_of_ble_eq_true rfl) ?_
  intro p e s m below meth c ls hx hb hml hr hlk hts hown hnm hK hI hl
  replace hown : s.vm.findClass zR_Agreement = some m.cls := hown
  replace hl : lv_has ls 4 [(0, .ref ay0), (1, .int xy1), (2, .int xy2), (3, .ref ay3)] := hl
  unfold zf_Agreement_init at h
  refine lv_aload_n hx hb zd_Agreement_init_0 rfl (lv_at hl 0 rfl) ?_
  refine W.objInit hx hb hown (hts _ zk_68) (hts _ zk_20) (hts _ zk_21) rfl (by rw [hml]; exact hl.1) rfl zd_Agreement_init_1 (Nat.le_of_ble_eq_true rfl) (Nat.le_of_ble_eq_true rfl) ?_
  refine W.eq (g2 := F0 m 4 ls []) rfl ?_
  refine lv_aload_n hx hb zd_Agreement_init_4 rfl (lv_at hl 0 rfl) ?_
  refine lv_iload_n hx hb zd_Agreement_init_5 rfl (lv_at hl 1 rfl) ?_
  obtain ⟨σ2, e1, h⟩ := zb_o h
  refine za_putF hx hb hts hown hnm hK hI zq_Agreement_9 e1 rfl rfl zd_Agreement_init_6 (fun H locs hI => ?_)
  refine lv_aload_n hx hb zd_Agreement_init_9 rfl (lv_at hl 0 rfl) ?_
  refine lv_iload_n hx hb zd_Agreement_init_10 rfl (lv_at hl 2 rfl) ?_
  obtain ⟨σ4, e3, h⟩ := zb_o h
  refine za_putF hx hb hts hown hnm hK hI zq_Agreement_15 e3 rfl rfl zd_Agreement_init_11 (fun H locs hI => ?_)
  refine lv_aload_n hx hb zd_Agreement_init_14 rfl (lv_at hl 0 rfl) ?_
  refine lv_aload_n hx hb zd_Agreement_init_15 rfl (lv_at hl 3 rfl) ?_
  obtain ⟨b6, e5, h⟩ := zb_o h
  refine za_getr hx hb hts hown hK hI zl_Agreement_18 e5 zd_Agreement_init_16 ?_
  refine lv_iload_n hx hb zd_Agreement_init_19 rfl (lv_at hl 1 rfl) ?_
  obtain ⟨b7, e8, h⟩ := zb_o h
  refine za_aaln hx hb hK hI (t := 7) rfl e8 zd_Agreement_init_20 ?_
  obtain ⟨σ10, e9, h⟩ := zb_o h
  refine za_putF hx hb hts hown hnm hK hI zq_Agreement_24 e9 rfl rfl zd_Agreement_init_21 (fun H locs hI => ?_)
  refine lv_aload_n hx hb zd_Agreement_init_24 rfl (lv_at hl 0 rfl) ?_
  refine za_new hx hb hts hown hK hI zw_Agreement_28 (Nat.le_of_ble_eq_true rfl) (Nat.le_of_ble_eq_true rfl) zd_Agreement_init_25 (fun H hI => ?_)
  refine lv_dup hx hb zd_Agreement_init_28 rfl ?_
  refine lv_iload_n hx hb zd_Agreement_init_29 rfl (lv_at hl 1 rfl) ?_
  refine lv_aload_n hx hb zd_Agreement_init_30 rfl (lv_at hl 3 rfl) ?_
  obtain ⟨⟨r11, σ12⟩, e13, h⟩ := zb_o h
  refine za_callv (za_runI hx hb hml hown hts hK hI (zm_Statements_init e13) zj_Agreement_30 ⟨rfl, rfl⟩ ⟨Nat.le_of_ble_eq_true rfl, Nat.le_of_ble_eq_true rfl⟩ rfl hl.1 rfl (Nat.le_of_ble_eq_true rfl) zd_Agreement_init_31 ⟨Nat.le_of_ble_eq_true rfl, Nat.le_of_ble_eq_true rfl⟩) hI (fun H locs hI => ?_)
  obtain ⟨σ15, e14, h⟩ := zb_o h
  refine za_putF hx hb hts hown hnm hK hI zq_Agreement_33 e14 rfl rfl zd_Agreement_init_34 (fun H locs hI => ?_)
  refine lv_aload_n hx hb zd_Agreement_init_37 rfl (lv_at hl 0 rfl) ?_
  refine za_new hx hb hts hown hK hI zw_Agreement_28 (Nat.le_of_ble_eq_true rfl) (Nat.le_of_ble_eq_true rfl) zd_Agreement_init_38 (fun H hI => ?_)
  refine lv_dup hx hb zd_Agreement_init_41 rfl ?_
  refine lv_iload_n hx hb zd_Agreement_init_42 rfl (lv_at hl 1 rfl) ?_
  refine lv_aload_n hx hb zd_Agreement_init_43 rfl (lv_at hl 3 rfl) ?_
  obtain ⟨⟨r16, σ17⟩, e18, h⟩ := zb_o h
  refine za_callv (za_runI hx hb hml hown hts hK hI (zm_Statements_init e18) zj_Agreement_30 ⟨rfl, rfl⟩ ⟨Nat.le_of_ble_eq_true rfl, Nat.le_of_ble_eq_true rfl⟩ rfl hl.1 rfl (Nat.le_of_ble_eq_true rfl) zd_Agreement_init_44 ⟨Nat.le_of_ble_eq_true rfl, Nat.le_of_ble_eq_true rfl⟩) hI (fun H locs hI => ?_)
  obtain ⟨σ20, e19, h⟩ := zb_o h
  refine za_putF hx hb hts hown hnm hK hI zq_Agreement_37 e19 rfl rfl zd_Agreement_init_47 (fun H locs hI => ?_)
  refine lv_aload_n hx hb zd_Agreement_init_50 rfl (lv_at hl 0 rfl) ?_
  refine za_new hx hb hts hown hK hI zw_Agreement_28 (Nat.le_of_ble_eq_true rfl) (Nat.le_of_ble_eq_true rfl) zd_Agreement_init_51 (fun H hI => ?_)
  refine lv_dup hx hb zd_Agreement_init_54 rfl ?_
  refine lv_iload_n hx hb zd_Agreement_init_55 rfl (lv_at hl 1 rfl) ?_
  refine lv_aload_n hx hb zd_Agreement_init_56 rfl (lv_at hl 3 rfl) ?_
  obtain ⟨⟨r21, σ22⟩, e23, h⟩ := zb_o h
  refine za_callv (za_runI hx hb hml hown hts hK hI (zm_Statements_init e23) zj_Agreement_30 ⟨rfl, rfl⟩ ⟨Nat.le_of_ble_eq_true rfl, Nat.le_of_ble_eq_true rfl⟩ rfl hl.1 rfl (Nat.le_of_ble_eq_true rfl) zd_Agreement_init_57 ⟨Nat.le_of_ble_eq_true rfl, Nat.le_of_ble_eq_true rfl⟩) hI (fun H locs hI => ?_)
  obtain ⟨σ25, e24, h⟩ := zb_o h
  refine za_putF hx hb hts hown hnm hK hI zq_Agreement_40 e24 rfl rfl zd_Agreement_init_60 (fun H locs hI => ?_)
  exact za_vret hx hb hr hlk hI h (Nat.le_of_ble_eq_true rfl) (Nat.le_of_ble_eq_true rfl) zd_Agreement_init_63

def zf_Agreement_beginRound_91 (k35 : Nat → Int32 → Int32 → Int32 → Int32 → za_h → Option (Unit × za_h)) (a0 : Nat) (x1 : Int32) (x2 : Int32) (x3 : Int32) (x4 : Int32) (σ : za_h) : Option (Unit × za_h) :=
  k35 a0 x1 x2 x3 (x4 + nI 1) σ

def zf_Agreement_beginRound_35 : Nat → Nat → Int32 → Int32 → Int32 → Int32 → za_h → Option (Unit × za_h)
  | 0, _, _, _, _, _, _ => none
  | n + 1, a0, x1, x2, x3, x4, σ =>
  if (nI 5) ≤ x4 then
  ((zg_i σ a0 1 8).bind fun v3 =>
  (zp_f σ a0 1 8 (.int (v3 ||| ((nI 1) <<< (x2 &&& 31))))).bind fun σ5 =>
  some ((), σ5))
  else
  ((zg_i σ a0 1 1).bind fun v7 =>
  (zg_i σ a0 1 7).bind fun v9 =>
  (zf_TL_has x1 x4 σ).bind fun (r10, σ11) =>
  if r10 = 0 then
  (zf_Agreement_beginRound_91 (zf_Agreement_beginRound_35 n) a0 x1 x2 x3 x4 σ11)
  else
  (if ((((((nI 37) * x4) + ((nI 61) * v7)) + ((nI 17) * v9)) * (nI 29)) - (((((nI 37) * x4) + ((nI 61) * v7)) + ((nI 17) * v9)) * (nI 29)) / (nI 101) * (nI 101)) ≤ x3 then
  (zf_Agreement_beginRound_91 (zf_Agreement_beginRound_35 n) a0 x1 x2 x3 x4 σ11)
  else
  (zf_Agreement_beginRound_91 (zf_Agreement_beginRound_35 n) a0 x1 x4 ((((((nI 37) * x4) + ((nI 61) * v7)) + ((nI 17) * v9)) * (nI 29)) - (((((nI 37) * x4) + ((nI 61) * v7)) + ((nI 17) * v9)) * (nI 29)) / (nI 101) * (nI 101)) x4 σ11)))

def zf_Agreement_beginRound (ay0 : Nat) (σ : za_h) : Option (Unit × za_h) :=
  (zg_i σ ay0 1 7).bind fun v2 =>
  (zp_f σ ay0 1 7 (.int (v2 + (nI 1)))).bind fun σ4 =>
  (zg_r σ4 ay0 1 2).bind fun b6 =>
  (zg_c σ4 b6 9).bind fun _ =>
  (zf_Trust_everyone b6 σ4).bind fun (r8, σ9) =>
  (zg_i σ9 ay0 1 0).bind fun v12 =>
  (zg_i σ9 ay0 1 0).bind fun v14 =>
  zf_Agreement_beginRound_35 6 ay0 (r8 ||| ((nI 1) <<< (v12 &&& 31))) v14 (-1) (nI 0) σ9
set_option maxRecDepth 100000 in
set_option maxHeartbeats 4000000 in
theorem zm_Agreement_beginRound {l : Launch} {D : va_G} {ca : Nat → ClassId} {n0 : Nat} {ay0 : Nat} {σ σ' : za_h} {r : Unit} (h : zf_Agreement_beginRound ay0 σ = some (r, σ')) : Met l zy_Agreement_beginRound (za_wy zy_Agreement_beginRound zc_Agreement_beginRound 6 none) { frames := 1, cells := 0, slots := 0, locals := 21 } (za_Pc D ca n0 [.ref ay0] σ) (za_Qv D ca n0 r σ') 0 0 (za_A n0) := by
  refine za_met (by decide) (Nat.le_of_ble_eq_true rfl) ?_
  intro p e s m below meth c ls hx hb hml hr hlk hts hown hnm hK hI hl
  replace hown : s.vm.findClass zR_Agreement = some m.cls := hown
  replace hl : lv_has ls 6 [(0, .ref ay0)] := hl
  have B91 : ∀ (k35 : Nat → Int32 → Int32 → Int32 → Int32 → za_h → Option (Unit × za_h)), (∀ (H : Heap) (locs : List Loc) (ls : Array Slot) (a0 : Nat) (x1 : Int32) (x2 : Int32) (x3 : Int32) (x4 : Int32) (σ : za_h), za_I D ca n0 s σ H locs → lv_has ls 6 [(0, .ref a0), (1, .int x1), (2, .int x2), (3, .int x3), (4, .int x4)] → k35 a0 x1 x2 x3 x4 σ = some (r, σ') → W p l e ({ frames := 1, cells := 0, slots := 0, locals := 21 }) s m ([.ref ay0] : List Value).toArray below meth c H locs 0 0 (MQ below (za_Qv D ca n0 r σ') ([.ref ay0] : List Value).toArray s 0 0 (za_A n0)) (F0 m 35 ls [])) → ∀ (H : Heap) (locs : List Loc) (ls : Array Slot) (a0 : Nat) (x1 : Int32) (x2 : Int32) (x3 : Int32) (x4 : Int32) (σ : za_h), za_I D ca n0 s σ H locs → lv_has ls 6 [(0, .ref a0), (1, .int x1), (2, .int x2), (3, .int x3), (4, .int x4)] → zf_Agreement_beginRound_91 k35 a0 x1 x2 x3 x4 σ = some (r, σ') → W p l e ({ frames := 1, cells := 0, slots := 0, locals := 21 }) s m ([.ref ay0] : List Value).toArray below meth c H locs 0 0 (MQ below (za_Qv D ca n0 r σ') ([.ref ay0] : List Value).toArray s 0 0 (za_A n0)) (F0 m 91 ls []) := by
    intro k35 hk35 H locs ls a0 x1 x2 x3 x4 σ hI hl h
    unfold zf_Agreement_beginRound_91 at h
    refine lv_iinc (k := 4) (v := (x4 + nI 1)) (lv' := [(4, .int (x4 + nI 1)), (0, .ref a0), (1, .int x1), (2, .int x2), (3, .int x3)]) hx hb zd_Agreement_beginRound_91 hl rfl rfl (Nat.le_of_ble_eq_true rfl) rfl (fun ls hl => ?_)
    refine lv_goto hx hb (tgt := 35) zd_Agreement_beginRound_94 (by decide) ?_
    exact hk35 _ _ ls a0 x1 x2 x3 (x4 + nI 1) σ hI (lv_sub hl [1, 2, 3, 4, 0] rfl) h
  have B35 : ∀ n : Nat, ∀ (H : Heap) (locs : List Loc) (ls : Array Slot) (a0 : Nat) (x1 : Int32) (x2 : Int32) (x3 : Int32) (x4 : Int32) (σ : za_h), za_I D ca n0 s σ H locs → lv_has ls 6 [(0, .ref a0), (1, .int x1), (2, .int x2), (3, .int x3), (4, .int x4)] → zf_Agreement_beginRound_35 n a0 x1 x2 x3 x4 σ = some (r, σ') → W p l e ({ frames := 1, cells := 0, slots := 0, locals := 21 }) s m ([.ref ay0] : List Value).toArray below meth c H locs 0 0 (MQ below (za_Qv D ca n0 r σ') ([.ref ay0] : List Value).toArray s 0 0 (za_A n0)) (F0 m 35 ls []) := by
    intro n
    induction n with
    | zero => intro H locs ls a0 x1 x2 x3 x4 σ hI hl h; rw [zf_Agreement_beginRound_35] at h; cases h
    | succ n ih =>
      intro H locs ls a0 x1 x2 x3 x4 σ hI hl h
      rw [zf_Agreement_beginRound_35] at h
      refine lv_iload hx hb zd_Agreement_beginRound_35 (lv_at hl 4 rfl) ?_
      refine lv_iconst (v := nI 5) hx hb zd_Agreement_beginRound_37 (by decide) ?_
      refine lv_icmp_ge hx hb (tgt := 97) zd_Agreement_beginRound_38 (by decide) (fun c1 => ?_) (fun c1 => ?_)
      · replace h := zb_t c1 h
        refine lv_aload_n hx hb zd_Agreement_beginRound_97 rfl (lv_at hl 0 rfl) ?_
        refine lv_dup hx hb zd_Agreement_beginRound_98 rfl ?_
        obtain ⟨v3, e2, h⟩ := zb_o h
        refine za_geti hx hb hts hown hK hI zl_Agreement_46 e2 zd_Agreement_beginRound_99 ?_
        refine lv_iconst (v := nI 1) hx hb zd_Agreement_beginRound_102 (by decide) ?_
        refine lv_iload_n hx hb zd_Agreement_beginRound_103 rfl (lv_at hl 2 rfl) ?_
        refine lv_ishl hx hb zd_Agreement_beginRound_104 ?_
        refine lv_ior hx hb zd_Agreement_beginRound_105 ?_
        obtain ⟨σ5, e4, h⟩ := zb_o h
        refine za_put hx hb hts hown hK hI zl_Agreement_46 e4 rfl rfl zd_Agreement_beginRound_106 (fun H locs hI => ?_)
        exact za_vret hx hb hr hlk hI h (Nat.le_of_ble_eq_true rfl) (Nat.le_of_ble_eq_true rfl) zd_Agreement_beginRound_109
      · replace h := zb_f c1 h
        refine lv_bipush (v := nI 37) hx hb zd_Agreement_beginRound_41 (by decide) ?_
        refine lv_iload hx hb zd_Agreement_beginRound_43 (lv_at hl 4 rfl) ?_
        refine lv_imul hx hb zd_Agreement_beginRound_45 ?_
        refine lv_bipush (v := nI 61) hx hb zd_Agreement_beginRound_46 (by decide) ?_
        refine lv_aload_n hx hb zd_Agreement_beginRound_48 rfl (lv_at hl 0 rfl) ?_
        obtain ⟨v7, e6, h⟩ := zb_o h
        refine za_geti hx hb hts hown hK hI zl_Agreement_15 e6 zd_Agreement_beginRound_49 ?_
        refine lv_imul hx hb zd_Agreement_beginRound_52 ?_
        refine lv_iadd hx hb zd_Agreement_beginRound_53 ?_
        refine lv_bipush (v := nI 17) hx hb zd_Agreement_beginRound_54 (by decide) ?_
        refine lv_aload_n hx hb zd_Agreement_beginRound_56 rfl (lv_at hl 0 rfl) ?_
        obtain ⟨v9, e8, h⟩ := zb_o h
        refine za_geti hx hb hts hown hK hI zl_Agreement_43 e8 zd_Agreement_beginRound_57 ?_
        refine lv_imul hx hb zd_Agreement_beginRound_60 ?_
        refine lv_iadd hx hb zd_Agreement_beginRound_61 ?_
        refine lv_bipush (v := nI 29) hx hb zd_Agreement_beginRound_62 (by decide) ?_
        refine lv_imul hx hb zd_Agreement_beginRound_64 ?_
        refine lv_bipush (v := nI 101) hx hb zd_Agreement_beginRound_65 (by decide) ?_
        refine lv_irem hx hb zd_Agreement_beginRound_67 (by decide) ?_
        refine lv_istore (lv' := [(5, .int ((((((nI 37) * x4) + ((nI 61) * v7)) + ((nI 17) * v9)) * (nI 29)) - (((((nI 37) * x4) + ((nI 61) * v7)) + ((nI 17) * v9)) * (nI 29)) / (nI 101) * (nI 101))), (0, .ref a0), (1, .int x1), (2, .int x2), (3, .int x3), (4, .int x4)]) hx hb zd_Agreement_beginRound_68 hl (Nat.le_of_ble_eq_true rfl) rfl (fun ls hl => ?_)
        refine lv_iload_n hx hb zd_Agreement_beginRound_70 rfl (lv_at hl 2 rfl) ?_
        refine lv_iload hx hb zd_Agreement_beginRound_71 (lv_at hl 5 rfl) ?_
        obtain ⟨⟨r10, σ11⟩, e12, h⟩ := zb_o h
        refine za_calli (za_runS hx hb hml hown hts hK hI (zm_TL_has e12) zj_Agreement_116 ⟨rfl, rfl⟩ ⟨Nat.le_of_ble_eq_true rfl, Nat.le_of_ble_eq_true rfl⟩ rfl hl.1 rfl (Nat.le_of_ble_eq_true rfl) zd_Agreement_beginRound_73 ⟨Nat.le_of_ble_eq_true rfl, Nat.le_of_ble_eq_true rfl⟩) hI (fun H locs hI => ?_)
        refine lv_if_eq hx hb (tgt := 91) zd_Agreement_beginRound_76 (by decide) (fun c13 => ?_) (fun c13 => ?_)
        · replace h := zb_t c13 h
          exact B91 _ ih _ _ ls a0 x1 x2 x3 x4 σ11 hI (lv_sub hl [1, 2, 3, 4, 5] rfl) h
        · replace h := zb_f c13 h
          refine lv_iload hx hb zd_Agreement_beginRound_79 (lv_at hl 0 rfl) ?_
          refine lv_iload_n hx hb zd_Agreement_beginRound_81 rfl (lv_at hl 4 rfl) ?_
          refine lv_icmp_le hx hb (tgt := 91) zd_Agreement_beginRound_82 (by decide) (fun c14 => ?_) (fun c14 => ?_)
          · replace h := zb_t c14 h
            exact B91 _ ih _ _ ls a0 x1 x2 x3 x4 σ11 hI (lv_sub hl [1, 2, 3, 4, 5] rfl) h
          · replace h := zb_f c14 h
            refine lv_iload hx hb zd_Agreement_beginRound_85 (lv_at hl 5 rfl) ?_
            refine lv_istore_n (lv' := [(2, .int x4), (5, .int ((((((nI 37) * x4) + ((nI 61) * v7)) + ((nI 17) * v9)) * (nI 29)) - (((((nI 37) * x4) + ((nI 61) * v7)) + ((nI 17) * v9)) * (nI 29)) / (nI 101) * (nI 101))), (0, .ref a0), (1, .int x1), (3, .int x3), (4, .int x4)]) hx hb zd_Agreement_beginRound_87 rfl hl (Nat.le_of_ble_eq_true rfl) rfl (fun ls hl => ?_)
            refine lv_iload hx hb zd_Agreement_beginRound_88 (lv_at hl 1 rfl) ?_
            refine lv_istore_n (lv' := [(3, .int ((((((nI 37) * x4) + ((nI 61) * v7)) + ((nI 17) * v9)) * (nI 29)) - (((((nI 37) * x4) + ((nI 61) * v7)) + ((nI 17) * v9)) * (nI 29)) / (nI 101) * (nI 101))), (2, .int x4), (5, .int ((((((nI 37) * x4) + ((nI 61) * v7)) + ((nI 17) * v9)) * (nI 29)) - (((((nI 37) * x4) + ((nI 61) * v7)) + ((nI 17) * v9)) * (nI 29)) / (nI 101) * (nI 101))), (0, .ref a0), (1, .int x1), (4, .int x4)]) hx hb zd_Agreement_beginRound_90 rfl hl (Nat.le_of_ble_eq_true rfl) rfl (fun ls hl => ?_)
            exact B91 _ ih _ _ ls a0 x1 x4 ((((((nI 37) * x4) + ((nI 61) * v7)) + ((nI 17) * v9)) * (nI 29)) - (((((nI 37) * x4) + ((nI 61) * v7)) + ((nI 17) * v9)) * (nI 29)) / (nI 101) * (nI 101)) x4 σ11 hI (lv_sub hl [3, 4, 1, 0, 5] rfl) h
  unfold zf_Agreement_beginRound at h
  refine lv_aload_n hx hb zd_Agreement_beginRound_0 rfl (lv_at hl 0 rfl) ?_
  refine lv_dup hx hb zd_Agreement_beginRound_1 rfl ?_
  obtain ⟨v2, e1, h⟩ := zb_o h
  refine za_geti hx hb hts hown hK hI zl_Agreement_43 e1 zd_Agreement_beginRound_2 ?_
  refine lv_iconst (v := nI 1) hx hb zd_Agreement_beginRound_5 (by decide) ?_
  refine lv_iadd hx hb zd_Agreement_beginRound_6 ?_
  obtain ⟨σ4, e3, h⟩ := zb_o h
  refine za_put hx hb hts hown hK hI zl_Agreement_43 e3 rfl rfl zd_Agreement_beginRound_7 (fun H locs hI => ?_)
  refine lv_aload_n hx hb zd_Agreement_beginRound_10 rfl (lv_at hl 0 rfl) ?_
  obtain ⟨b6, e5, h⟩ := zb_o h
  refine za_getr hx hb hts hown hK hI zl_Agreement_24 e5 zd_Agreement_beginRound_11 ?_
  obtain ⟨_, g7, h⟩ := zb_o h
  obtain ⟨⟨r8, σ9⟩, e10, h⟩ := zb_o h
  refine za_calli (za_runV hx hb hml hown hts hK hI g7 (zm_Trust_everyone e10) zj_Agreement_111 ⟨rfl, rfl⟩ ⟨Nat.le_of_ble_eq_true rfl, Nat.le_of_ble_eq_true rfl⟩ rfl hl.1 rfl (Nat.le_of_ble_eq_true rfl) zd_Agreement_beginRound_14 ⟨Nat.le_of_ble_eq_true rfl, Nat.le_of_ble_eq_true rfl⟩) hI (fun H locs hI => ?_)
  refine lv_iconst (v := nI 1) hx hb zd_Agreement_beginRound_17 (by decide) ?_
  refine lv_aload_n hx hb zd_Agreement_beginRound_18 rfl (lv_at hl 0 rfl) ?_
  obtain ⟨v12, e11, h⟩ := zb_o h
  refine za_geti hx hb hts hown hK hI zl_Agreement_9 e11 zd_Agreement_beginRound_19 ?_
  refine lv_ishl hx hb zd_Agreement_beginRound_22 ?_
  refine lv_ior hx hb zd_Agreement_beginRound_23 ?_
  refine lv_istore_n (lv' := [(1, .int (r8 ||| ((nI 1) <<< (v12 &&& 31)))), (0, .ref ay0)]) hx hb zd_Agreement_beginRound_24 rfl hl (Nat.le_of_ble_eq_true rfl) rfl (fun ls hl => ?_)
  refine lv_aload_n hx hb zd_Agreement_beginRound_25 rfl (lv_at hl 1 rfl) ?_
  obtain ⟨v14, e13, h⟩ := zb_o h
  refine za_geti hx hb hts hown hK hI zl_Agreement_9 e13 zd_Agreement_beginRound_26 ?_
  refine lv_istore_n (lv' := [(2, .int v14), (1, .int (r8 ||| ((nI 1) <<< (v12 &&& 31)))), (0, .ref ay0)]) hx hb zd_Agreement_beginRound_29 rfl hl (Nat.le_of_ble_eq_true rfl) rfl (fun ls hl => ?_)
  refine lv_iconst (v := -1) hx hb zd_Agreement_beginRound_30 (by decide) ?_
  refine lv_istore_n (lv' := [(3, .int (-1)), (2, .int v14), (1, .int (r8 ||| ((nI 1) <<< (v12 &&& 31)))), (0, .ref ay0)]) hx hb zd_Agreement_beginRound_31 rfl hl (Nat.le_of_ble_eq_true rfl) rfl (fun ls hl => ?_)
  refine lv_iconst (v := nI 0) hx hb zd_Agreement_beginRound_32 (by decide) ?_
  refine lv_istore (lv' := [(4, .int (nI 0)), (3, .int (-1)), (2, .int v14), (1, .int (r8 ||| ((nI 1) <<< (v12 &&& 31)))), (0, .ref ay0)]) hx hb zd_Agreement_beginRound_33 hl (Nat.le_of_ble_eq_true rfl) rfl (fun ls hl => ?_)
  exact B35 6 _ _ ls ay0 (r8 ||| ((nI 1) <<< (v12 &&& 31))) v14 (-1) (nI 0) σ9 hI (lv_sub hl [4, 3, 2, 1, 0] rfl) h

def zf_Agreement_takeProposal_16  (σ : za_h) : Option (Unit × za_h) :=
  some ((), σ)

def zf_Agreement_takeProposal (ay0 : Nat) (xy1 : Int32) (σ : za_h) : Option (Unit × za_h) :=
  (zp_f σ ay0 1 6 (.int xy1)).bind fun σ2 =>
  (zg_i σ2 ay0 1 7).bind fun v4 =>
  if v4 = 0 then
  ((zg_c σ2 ay0 1).bind fun _ =>
  (zf_Agreement_beginRound ay0 σ2).bind fun (_, σ8) =>
  zf_Agreement_takeProposal_16 σ8)
  else
  (zf_Agreement_takeProposal_16 σ2)
set_option maxRecDepth 100000 in
set_option maxHeartbeats 4000000 in
theorem zm_Agreement_takeProposal {l : Launch} {D : va_G} {ca : Nat → ClassId} {n0 : Nat} {ay0 : Nat} {xy1 : Int32} {σ σ' : za_h} {r : Unit} (h : zf_Agreement_takeProposal ay0 xy1 σ = some (r, σ')) : Met l zy_Agreement_takeProposal (za_wy zy_Agreement_takeProposal zc_Agreement_takeProposal 2 none) { frames := 2, cells := 0, slots := 0, locals := 46 } (za_Pc D ca n0 [.ref ay0, .int xy1] σ) (za_Qv D ca n0 r σ') 0 0 (za_A n0) := by
  refine za_met (by decide) (Nat.le_of_ble_eq_true rfl) ?_
  intro p e s m below meth c ls hx hb hml hr hlk hts hown hnm hK hI hl
  replace hown : s.vm.findClass zR_Agreement = some m.cls := hown
  replace hl : lv_has ls 2 [(0, .ref ay0), (1, .int xy1)] := hl
  have B16 : ∀ (H : Heap) (locs : List Loc) (ls : Array Slot) (σ : za_h), za_I D ca n0 s σ H locs → lv_has ls 2 [] → zf_Agreement_takeProposal_16 σ = some (r, σ') → W p l e ({ frames := 2, cells := 0, slots := 0, locals := 46 }) s m ([.ref ay0, .int xy1] : List Value).toArray below meth c H locs 0 0 (MQ below (za_Qv D ca n0 r σ') ([.ref ay0, .int xy1] : List Value).toArray s 0 0 (za_A n0)) (F0 m 16 ls []) := by
    intro H locs ls σ hI hl h
    unfold zf_Agreement_takeProposal_16 at h
    exact za_vret hx hb hr hlk hI h (Nat.le_of_ble_eq_true rfl) (Nat.le_of_ble_eq_true rfl) zd_Agreement_takeProposal_16
  unfold zf_Agreement_takeProposal at h
  refine lv_aload_n hx hb zd_Agreement_takeProposal_0 rfl (lv_at hl 0 rfl) ?_
  refine lv_iload_n hx hb zd_Agreement_takeProposal_1 rfl (lv_at hl 1 rfl) ?_
  obtain ⟨σ2, e1, h⟩ := zb_o h
  refine za_put hx hb hts hown hK hI zl_Agreement_56 e1 rfl rfl zd_Agreement_takeProposal_2 (fun H locs hI => ?_)
  refine lv_aload_n hx hb zd_Agreement_takeProposal_5 rfl (lv_at hl 0 rfl) ?_
  obtain ⟨v4, e3, h⟩ := zb_o h
  refine za_geti hx hb hts hown hK hI zl_Agreement_43 e3 zd_Agreement_takeProposal_6 ?_
  refine lv_if_ne hx hb (tgt := 16) zd_Agreement_takeProposal_9 (by decide) (fun c5 => ?_) (fun c5 => ?_)
  · replace h := zb_f c5 h
    exact B16 _ _ ls σ2 hI (lv_sub hl [] rfl) h
  · replace h := zb_t c5 h
    refine lv_aload_n hx hb zd_Agreement_takeProposal_12 rfl (lv_at hl 0 rfl) ?_
    obtain ⟨_, g6, h⟩ := zb_o h
    obtain ⟨⟨r7, σ8⟩, e9, h⟩ := zb_o h
    refine za_callv (za_runV hx hb hml hown hts hK hI g6 (zm_Agreement_beginRound e9) zj_Agreement_59 ⟨rfl, rfl⟩ ⟨Nat.le_of_ble_eq_true rfl, Nat.le_of_ble_eq_true rfl⟩ rfl hl.1 rfl (Nat.le_of_ble_eq_true rfl) zd_Agreement_takeProposal_13 ⟨Nat.le_of_ble_eq_true rfl, Nat.le_of_ble_eq_true rfl⟩) hI (fun H locs hI => ?_)
    exact B16 _ _ ls σ8 hI (lv_sub hl [] rfl) h

def zf_Agreement_voteNominate_88 (k16 : Nat → Int32 → Int32 → za_h → Option (Int32 × za_h)) (a0 : Nat) (x1 : Int32) (x2 : Int32) (σ : za_h) : Option (Int32 × za_h) :=
  k16 a0 x1 (x2 + nI 1) σ

def zf_Agreement_voteNominate_77 (k16 : Nat → Int32 → Int32 → za_h → Option (Int32 × za_h)) (a0 : Nat) (x1 : Int32) (x2 : Int32) (σ : za_h) : Option (Int32 × za_h) :=
  (zg_r σ a0 1 3).bind fun b2 =>
  (zg_c σ b2 7).bind fun _ =>
  (zf_Statements_vote b2 x2 σ).bind fun (r4, σ5) =>
  zf_Agreement_voteNominate_88 k16 a0 (x1 ||| r4) x2 σ5

def zf_Agreement_voteNominate_49 (k16 : Nat → Int32 → Int32 → za_h → Option (Int32 × za_h)) (a0 : Nat) (x1 : Int32) (x2 : Int32) (xs0 : Int32) (σ : za_h) : Option (Int32 × za_h) :=
  if xs0 = 0 then
  ((zg_r σ a0 1 3).bind fun b3 =>
  (zg_r σ a0 1 3).bind fun b5 =>
  (zg_r σ b5 7 4).bind fun b7 =>
  (zg_c σ b3 7).bind fun _ =>
  (zf_Statements_nodesWith b3 b7 x2 σ).bind fun (r9, σ10) =>
  (zg_i σ10 a0 1 8).bind fun v13 =>
  if (r9 &&& v13) = 0 then
  (zf_Agreement_voteNominate_88 k16 a0 x1 x2 σ10)
  else
  (zf_Agreement_voteNominate_77 k16 a0 x1 x2 σ10))
  else
  (zf_Agreement_voteNominate_77 k16 a0 x1 x2 σ)

def zf_Agreement_voteNominate_48 (k16 : Nat → Int32 → Int32 → za_h → Option (Int32 × za_h)) (a0 : Nat) (x1 : Int32) (x2 : Int32) (σ : za_h) : Option (Int32 × za_h) :=
  zf_Agreement_voteNominate_49 k16 a0 x1 x2 (nI 0) σ

def zf_Agreement_voteNominate_16 : Nat → Nat → Int32 → Int32 → za_h → Option (Int32 × za_h)
  | 0, _, _, _, _ => none
  | n + 1, a0, x1, x2, σ =>
  if (nI 7) < x2 then
  (if x1 = 0 ∨ x1 = 1 then some (x1, σ) else none)
  else
  ((zg_i σ a0 1 8).bind fun v4 =>
  (zg_i σ a0 1 0).bind fun v6 =>
  (zf_TL_has v4 v6 σ).bind fun (r7, σ8) =>
  if r7 = 0 then
  (zf_Agreement_voteNominate_48 (zf_Agreement_voteNominate_16 n) a0 x1 x2 σ8)
  else
  ((zg_i σ8 a0 1 6).bind fun v12 =>
  if x2 = v12 then
  (zf_Agreement_voteNominate_49 (zf_Agreement_voteNominate_16 n) a0 x1 x2 (nI 1) σ8)
  else
  (zf_Agreement_voteNominate_48 (zf_Agreement_voteNominate_16 n) a0 x1 x2 σ8)))

def zf_Agreement_voteNominate (ay0 : Nat) (σ : za_h) : Option (Int32 × za_h) :=
  (zg_r σ ay0 1 3).bind fun b2 =>
  (zg_i σ b2 7 3).bind fun v4 =>
  if v4 = 0 then
  (zf_Agreement_voteNominate_16 8 ay0 (nI 0) (nI 1) σ)
  else
  (some ((nI 0), σ))
set_option maxRecDepth 100000 in
set_option maxHeartbeats 4000000 in
theorem zm_Agreement_voteNominate {l : Launch} {D : va_G} {ca : Nat → ClassId} {n0 : Nat} {ay0 : Nat} {σ σ' : za_h} {r : Int32} (h : zf_Agreement_voteNominate ay0 σ = some (r, σ')) : Met l zy_Agreement_voteNominate (za_wy zy_Agreement_voteNominate zc_Agreement_voteNominate 4 (some .boolean)) { frames := 2, cells := 0, slots := 0, locals := 45 } (za_Pc D ca n0 [.ref ay0] σ) (za_Qi D ca n0 r σ') 0 0 (za_A n0) := by
  refine za_met (by decide) (Nat.le_of_ble_eq_true rfl) ?_
  intro p e s m below meth c ls hx hb hml hr hlk hts hown hnm hK hI hl
  replace hown : s.vm.findClass zR_Agreement = some m.cls := hown
  replace hl : lv_has ls 4 [(0, .ref ay0)] := hl
  have B88 : ∀ (k16 : Nat → Int32 → Int32 → za_h → Option (Int32 × za_h)), (∀ (H : Heap) (locs : List Loc) (ls : Array Slot) (a0 : Nat) (x1 : Int32) (x2 : Int32) (σ : za_h), za_I D ca n0 s σ H locs → lv_has ls 4 [(0, .ref a0), (1, .int x1), (2, .int x2)] → k16 a0 x1 x2 σ = some (r, σ') → W p l e ({ frames := 2, cells := 0, slots := 0, locals := 45 }) s m ([.ref ay0] : List Value).toArray below meth c H locs 0 0 (MQ below (za_Qi D ca n0 r σ') ([.ref ay0] : List Value).toArray s 0 0 (za_A n0)) (F0 m 16 ls [])) → ∀ (H : Heap) (locs : List Loc) (ls : Array Slot) (a0 : Nat) (x1 : Int32) (x2 : Int32) (σ : za_h), za_I D ca n0 s σ H locs → lv_has ls 4 [(0, .ref a0), (1, .int x1), (2, .int x2)] → zf_Agreement_voteNominate_88 k16 a0 x1 x2 σ = some (r, σ') → W p l e ({ frames := 2, cells := 0, slots := 0, locals := 45 }) s m ([.ref ay0] : List Value).toArray below meth c H locs 0 0 (MQ below (za_Qi D ca n0 r σ') ([.ref ay0] : List Value).toArray s 0 0 (za_A n0)) (F0 m 88 ls []) := by
    intro k16 hk16 H locs ls a0 x1 x2 σ hI hl h
    unfold zf_Agreement_voteNominate_88 at h
    refine lv_iinc (k := 2) (v := (x2 + nI 1)) (lv' := [(2, .int (x2 + nI 1)), (0, .ref a0), (1, .int x1)]) hx hb zd_Agreement_voteNominate_88 hl rfl rfl (Nat.le_of_ble_eq_true rfl) rfl (fun ls hl => ?_)
    refine lv_goto hx hb (tgt := 16) zd_Agreement_voteNominate_91 (by decide) ?_
    exact hk16 _ _ ls a0 x1 (x2 + nI 1) σ hI (lv_sub hl [1, 2, 0] rfl) h
  have B77 : ∀ (k16 : Nat → Int32 → Int32 → za_h → Option (Int32 × za_h)), (∀ (H : Heap) (locs : List Loc) (ls : Array Slot) (a0 : Nat) (x1 : Int32) (x2 : Int32) (σ : za_h), za_I D ca n0 s σ H locs → lv_has ls 4 [(0, .ref a0), (1, .int x1), (2, .int x2)] → k16 a0 x1 x2 σ = some (r, σ') → W p l e ({ frames := 2, cells := 0, slots := 0, locals := 45 }) s m ([.ref ay0] : List Value).toArray below meth c H locs 0 0 (MQ below (za_Qi D ca n0 r σ') ([.ref ay0] : List Value).toArray s 0 0 (za_A n0)) (F0 m 16 ls [])) → ∀ (H : Heap) (locs : List Loc) (ls : Array Slot) (a0 : Nat) (x1 : Int32) (x2 : Int32) (σ : za_h), za_I D ca n0 s σ H locs → lv_has ls 4 [(0, .ref a0), (1, .int x1), (2, .int x2)] → zf_Agreement_voteNominate_77 k16 a0 x1 x2 σ = some (r, σ') → W p l e ({ frames := 2, cells := 0, slots := 0, locals := 45 }) s m ([.ref ay0] : List Value).toArray below meth c H locs 0 0 (MQ below (za_Qi D ca n0 r σ') ([.ref ay0] : List Value).toArray s 0 0 (za_A n0)) (F0 m 77 ls []) := by
    intro k16 hk16 H locs ls a0 x1 x2 σ hI hl h
    unfold zf_Agreement_voteNominate_77 at h
    refine lv_iload_n hx hb zd_Agreement_voteNominate_77 rfl (lv_at hl 1 rfl) ?_
    refine lv_aload_n hx hb zd_Agreement_voteNominate_78 rfl (lv_at hl 0 rfl) ?_
    obtain ⟨b2, e1, h⟩ := zb_o h
    refine za_getr hx hb hts hown hK hI zl_Agreement_33 e1 zd_Agreement_voteNominate_79 ?_
    refine lv_iload_n hx hb zd_Agreement_voteNominate_82 rfl (lv_at hl 2 rfl) ?_
    obtain ⟨_, g3, h⟩ := zb_o h
    obtain ⟨⟨r4, σ5⟩, e6, h⟩ := zb_o h
    refine za_calli (za_runV hx hb hml hown hts hK hI g3 (zm_Statements_vote e6) zj_Agreement_127 ⟨rfl, rfl⟩ ⟨Nat.le_of_ble_eq_true rfl, Nat.le_of_ble_eq_true rfl⟩ rfl hl.1 rfl (Nat.le_of_ble_eq_true rfl) zd_Agreement_voteNominate_83 ⟨Nat.le_of_ble_eq_true rfl, Nat.le_of_ble_eq_true rfl⟩) hI (fun H locs hI => ?_)
    refine lv_ior hx hb zd_Agreement_voteNominate_86 ?_
    refine lv_istore_n (lv' := [(1, .int (x1 ||| r4)), (0, .ref a0), (2, .int x2)]) hx hb zd_Agreement_voteNominate_87 rfl hl (Nat.le_of_ble_eq_true rfl) rfl (fun ls hl => ?_)
    exact B88 _ hk16 _ _ ls a0 (x1 ||| r4) x2 σ5 hI (lv_sub hl [1, 0, 2] rfl) h
  have B49 : ∀ (k16 : Nat → Int32 → Int32 → za_h → Option (Int32 × za_h)), (∀ (H : Heap) (locs : List Loc) (ls : Array Slot) (a0 : Nat) (x1 : Int32) (x2 : Int32) (σ : za_h), za_I D ca n0 s σ H locs → lv_has ls 4 [(0, .ref a0), (1, .int x1), (2, .int x2)] → k16 a0 x1 x2 σ = some (r, σ') → W p l e ({ frames := 2, cells := 0, slots := 0, locals := 45 }) s m ([.ref ay0] : List Value).toArray below meth c H locs 0 0 (MQ below (za_Qi D ca n0 r σ') ([.ref ay0] : List Value).toArray s 0 0 (za_A n0)) (F0 m 16 ls [])) → ∀ (H : Heap) (locs : List Loc) (ls : Array Slot) (a0 : Nat) (x1 : Int32) (x2 : Int32) (xs0 : Int32) (σ : za_h), za_I D ca n0 s σ H locs → lv_has ls 4 [(0, .ref a0), (1, .int x1), (2, .int x2)] → zf_Agreement_voteNominate_49 k16 a0 x1 x2 xs0 σ = some (r, σ') → W p l e ({ frames := 2, cells := 0, slots := 0, locals := 45 }) s m ([.ref ay0] : List Value).toArray below meth c H locs 0 0 (MQ below (za_Qi D ca n0 r σ') ([.ref ay0] : List Value).toArray s 0 0 (za_A n0)) (F0 m 49 ls [.int xs0]) := by
    intro k16 hk16 H locs ls a0 x1 x2 xs0 σ hI hl h
    unfold zf_Agreement_voteNominate_49 at h
    refine lv_istore_n (lv' := [(3, .int xs0), (0, .ref a0), (1, .int x1), (2, .int x2)]) hx hb zd_Agreement_voteNominate_49 rfl hl (Nat.le_of_ble_eq_true rfl) rfl (fun ls hl => ?_)
    refine lv_iload_n hx hb zd_Agreement_voteNominate_50 rfl (lv_at hl 0 rfl) ?_
    refine lv_if_ne hx hb (tgt := 77) zd_Agreement_voteNominate_51 (by decide) (fun c1 => ?_) (fun c1 => ?_)
    · replace h := zb_f c1 h
      exact B77 _ hk16 _ _ ls a0 x1 x2 σ hI (lv_sub hl [1, 2, 3] rfl) h
    · replace h := zb_t c1 h
      refine lv_aload_n hx hb zd_Agreement_voteNominate_54 rfl (lv_at hl 1 rfl) ?_
      obtain ⟨b3, e2, h⟩ := zb_o h
      refine za_getr hx hb hts hown hK hI zl_Agreement_33 e2 zd_Agreement_voteNominate_55 ?_
      refine lv_aload_n hx hb zd_Agreement_voteNominate_58 rfl (lv_at hl 1 rfl) ?_
      obtain ⟨b5, e4, h⟩ := zb_o h
      refine za_getr hx hb hts hown hK hI zl_Agreement_33 e4 zd_Agreement_voteNominate_59 ?_
      obtain ⟨b7, e6, h⟩ := zb_o h
      refine za_getr hx hb hts hown hK hI zl_Agreement_69 e6 zd_Agreement_voteNominate_62 ?_
      refine lv_iload_n hx hb zd_Agreement_voteNominate_65 rfl (lv_at hl 3 rfl) ?_
      obtain ⟨_, g8, h⟩ := zb_o h
      obtain ⟨⟨r9, σ10⟩, e11, h⟩ := zb_o h
      refine za_calli (za_runV hx hb hml hown hts hK hI g8 (zm_Statements_nodesWith e11) zj_Agreement_138 ⟨rfl, rfl⟩ ⟨Nat.le_of_ble_eq_true rfl, Nat.le_of_ble_eq_true rfl⟩ rfl hl.1 rfl (Nat.le_of_ble_eq_true rfl) zd_Agreement_voteNominate_66 ⟨Nat.le_of_ble_eq_true rfl, Nat.le_of_ble_eq_true rfl⟩) hI (fun H locs hI => ?_)
      refine lv_aload_n hx hb zd_Agreement_voteNominate_69 rfl (lv_at hl 1 rfl) ?_
      obtain ⟨v13, e12, h⟩ := zb_o h
      refine za_geti hx hb hts hown hK hI zl_Agreement_46 e12 zd_Agreement_voteNominate_70 ?_
      refine lv_iand hx hb zd_Agreement_voteNominate_73 ?_
      refine lv_if_eq hx hb (tgt := 88) zd_Agreement_voteNominate_74 (by decide) (fun c14 => ?_) (fun c14 => ?_)
      · replace h := zb_t c14 h
        exact B88 _ hk16 _ _ ls a0 x1 x2 σ10 hI (lv_sub hl [1, 2, 3] rfl) h
      · replace h := zb_f c14 h
        exact B77 _ hk16 _ _ ls a0 x1 x2 σ10 hI (lv_sub hl [1, 2, 3] rfl) h
  have B48 : ∀ (k16 : Nat → Int32 → Int32 → za_h → Option (Int32 × za_h)), (∀ (H : Heap) (locs : List Loc) (ls : Array Slot) (a0 : Nat) (x1 : Int32) (x2 : Int32) (σ : za_h), za_I D ca n0 s σ H locs → lv_has ls 4 [(0, .ref a0), (1, .int x1), (2, .int x2)] → k16 a0 x1 x2 σ = some (r, σ') → W p l e ({ frames := 2, cells := 0, slots := 0, locals := 45 }) s m ([.ref ay0] : List Value).toArray below meth c H locs 0 0 (MQ below (za_Qi D ca n0 r σ') ([.ref ay0] : List Value).toArray s 0 0 (za_A n0)) (F0 m 16 ls [])) → ∀ (H : Heap) (locs : List Loc) (ls : Array Slot) (a0 : Nat) (x1 : Int32) (x2 : Int32) (σ : za_h), za_I D ca n0 s σ H locs → lv_has ls 4 [(0, .ref a0), (1, .int x1), (2, .int x2)] → zf_Agreement_voteNominate_48 k16 a0 x1 x2 σ = some (r, σ') → W p l e ({ frames := 2, cells := 0, slots := 0, locals := 45 }) s m ([.ref ay0] : List Value).toArray below meth c H locs 0 0 (MQ below (za_Qi D ca n0 r σ') ([.ref ay0] : List Value).toArray s 0 0 (za_A n0)) (F0 m 48 ls []) := by
    intro k16 hk16 H locs ls a0 x1 x2 σ hI hl h
    unfold zf_Agreement_voteNominate_48 at h
    refine lv_iconst (v := nI 0) hx hb zd_Agreement_voteNominate_48 (by decide) ?_
    exact B49 _ hk16 _ _ ls a0 x1 x2 (nI 0) σ hI (lv_sub hl [0, 1, 2] rfl) h
  have B16 : ∀ n : Nat, ∀ (H : Heap) (locs : List Loc) (ls : Array Slot) (a0 : Nat) (x1 : Int32) (x2 : Int32) (σ : za_h), za_I D ca n0 s σ H locs → lv_has ls 4 [(0, .ref a0), (1, .int x1), (2, .int x2)] → zf_Agreement_voteNominate_16 n a0 x1 x2 σ = some (r, σ') → W p l e ({ frames := 2, cells := 0, slots := 0, locals := 45 }) s m ([.ref ay0] : List Value).toArray below meth c H locs 0 0 (MQ below (za_Qi D ca n0 r σ') ([.ref ay0] : List Value).toArray s 0 0 (za_A n0)) (F0 m 16 ls []) := by
    intro n
    induction n with
    | zero => intro H locs ls a0 x1 x2 σ hI hl h; rw [zf_Agreement_voteNominate_16] at h; cases h
    | succ n ih =>
      intro H locs ls a0 x1 x2 σ hI hl h
      rw [zf_Agreement_voteNominate_16] at h
      refine lv_iload_n hx hb zd_Agreement_voteNominate_16 rfl (lv_at hl 2 rfl) ?_
      refine lv_bipush (v := nI 7) hx hb zd_Agreement_voteNominate_17 (by decide) ?_
      refine lv_icmp_gt hx hb (tgt := 94) zd_Agreement_voteNominate_19 (by decide) (fun c1 => ?_) (fun c1 => ?_)
      · replace h := zb_t c1 h
        refine lv_iload_n hx hb zd_Agreement_voteNominate_94 rfl (lv_at hl 1 rfl) ?_
        obtain ⟨g2, h⟩ := zb_g h
        exact za_zret hx hb hr hlk hI g2 h (Nat.le_of_ble_eq_true rfl) (Nat.le_of_ble_eq_true rfl) zd_Agreement_voteNominate_95
      · replace h := zb_f c1 h
        refine lv_aload_n hx hb zd_Agreement_voteNominate_22 rfl (lv_at hl 0 rfl) ?_
        obtain ⟨v4, e3, h⟩ := zb_o h
        refine za_geti hx hb hts hown hK hI zl_Agreement_46 e3 zd_Agreement_voteNominate_23 ?_
        refine lv_aload_n hx hb zd_Agreement_voteNominate_26 rfl (lv_at hl 0 rfl) ?_
        obtain ⟨v6, e5, h⟩ := zb_o h
        refine za_geti hx hb hts hown hK hI zl_Agreement_9 e5 zd_Agreement_voteNominate_27 ?_
        obtain ⟨⟨r7, σ8⟩, e9, h⟩ := zb_o h
        refine za_calli (za_runS hx hb hml hown hts hK hI (zm_TL_has e9) zj_Agreement_116 ⟨rfl, rfl⟩ ⟨Nat.le_of_ble_eq_true rfl, Nat.le_of_ble_eq_true rfl⟩ rfl hl.1 rfl (Nat.le_of_ble_eq_true rfl) zd_Agreement_voteNominate_30 ⟨Nat.le_of_ble_eq_true rfl, Nat.le_of_ble_eq_true rfl⟩) hI (fun H locs hI => ?_)
        refine lv_if_eq hx hb (tgt := 48) zd_Agreement_voteNominate_33 (by decide) (fun c10 => ?_) (fun c10 => ?_)
        · replace h := zb_t c10 h
          exact B48 _ ih _ _ ls a0 x1 x2 σ8 hI (lv_sub hl [0, 1, 2] rfl) h
        · replace h := zb_f c10 h
          refine lv_iload_n hx hb zd_Agreement_voteNominate_36 rfl (lv_at hl 2 rfl) ?_
          refine lv_aload_n hx hb zd_Agreement_voteNominate_37 rfl (lv_at hl 0 rfl) ?_
          obtain ⟨v12, e11, h⟩ := zb_o h
          refine za_geti hx hb hts hown hK hI zl_Agreement_56 e11 zd_Agreement_voteNominate_38 ?_
          refine lv_icmp_ne hx hb (tgt := 48) zd_Agreement_voteNominate_41 (by decide) (fun c13 => ?_) (fun c13 => ?_)
          · replace h := zb_f c13 h
            exact B48 _ ih _ _ ls a0 x1 x2 σ8 hI (lv_sub hl [0, 1, 2] rfl) h
          · replace h := zb_t c13 h
            refine lv_iconst (v := nI 1) hx hb zd_Agreement_voteNominate_44 (by decide) ?_
            refine lv_goto hx hb (tgt := 49) zd_Agreement_voteNominate_45 (by decide) ?_
            exact B49 _ ih _ _ ls a0 x1 x2 (nI 1) σ8 hI (lv_sub hl [0, 1, 2] rfl) h
  unfold zf_Agreement_voteNominate at h
  refine lv_iconst (v := nI 0) hx hb zd_Agreement_voteNominate_0 (by decide) ?_
  refine lv_istore_n (lv' := [(1, .int (nI 0)), (0, .ref ay0)]) hx hb zd_Agreement_voteNominate_1 rfl hl (Nat.le_of_ble_eq_true rfl) rfl (fun ls hl => ?_)
  refine lv_aload_n hx hb zd_Agreement_voteNominate_2 rfl (lv_at hl 1 rfl) ?_
  obtain ⟨b2, e1, h⟩ := zb_o h
  refine za_getr hx hb hts hown hK hI zl_Agreement_33 e1 zd_Agreement_voteNominate_3 ?_
  obtain ⟨v4, e3, h⟩ := zb_o h
  refine za_geti hx hb hts hown hK hI zl_Agreement_131 e3 zd_Agreement_voteNominate_6 ?_
  refine lv_if_eq hx hb (tgt := 14) zd_Agreement_voteNominate_9 (by decide) (fun c5 => ?_) (fun c5 => ?_)
  · replace h := zb_t c5 h
    refine lv_iconst (v := nI 1) hx hb zd_Agreement_voteNominate_14 (by decide) ?_
    refine lv_istore_n (lv' := [(2, .int (nI 1)), (1, .int (nI 0)), (0, .ref ay0)]) hx hb zd_Agreement_voteNominate_15 rfl hl (Nat.le_of_ble_eq_true rfl) rfl (fun ls hl => ?_)
    exact B16 8 _ _ ls ay0 (nI 0) (nI 1) σ hI (lv_sub hl [2, 1, 0] rfl) h
  · replace h := zb_f c5 h
    refine lv_iload_n hx hb zd_Agreement_voteNominate_12 rfl (lv_at hl 0 rfl) ?_
    exact za_zret hx hb hr hlk hI (by decide) h (Nat.le_of_ble_eq_true rfl) (Nat.le_of_ble_eq_true rfl) zd_Agreement_voteNominate_13

def zf_Agreement_acceptNominate_4 : Nat → Nat → Int32 → Int32 → za_h → Option (Int32 × za_h)
  | 0, _, _, _, _ => none
  | n + 1, a0, x1, x2, σ =>
  if (nI 7) < x2 then
  (if x1 = 0 ∨ x1 = 1 then some (x1, σ) else none)
  else
  ((zg_r σ a0 1 3).bind fun b4 =>
  (zg_c σ b4 7).bind fun _ =>
  (zf_Statements_acceptIfMay b4 x2 σ).bind fun (r6, σ7) =>
  zf_Agreement_acceptNominate_4 n a0 (x1 ||| r6) (x2 + nI 1) σ7)

def zf_Agreement_acceptNominate (ay0 : Nat) (σ : za_h) : Option (Int32 × za_h) :=
  zf_Agreement_acceptNominate_4 8 ay0 (nI 0) (nI 1) σ
set_option maxRecDepth 100000 in
set_option maxHeartbeats 4000000 in
theorem zm_Agreement_acceptNominate {l : Launch} {D : va_G} {ca : Nat → ClassId} {n0 : Nat} {ay0 : Nat} {σ σ' : za_h} {r : Int32} (h : zf_Agreement_acceptNominate ay0 σ = some (r, σ')) : Met l zy_Agreement_acceptNominate (za_wy zy_Agreement_acceptNominate zc_Agreement_acceptNominate 3 (some .boolean)) { frames := 4, cells := 0, slots := 0, locals := 90 } (za_Pc D ca n0 [.ref ay0] σ) (za_Qi D ca n0 r σ') 0 0 (za_A n0) := by
  refine za_met (by decide) (Nat.le_of_ble_eq_true rfl) ?_
  intro p e s m below meth c ls hx hb hml hr hlk hts hown hnm hK hI hl
  replace hown : s.vm.findClass zR_Agreement = some m.cls := hown
  replace hl : lv_has ls 3 [(0, .ref ay0)] := hl
  have B4 : ∀ n : Nat, ∀ (H : Heap) (locs : List Loc) (ls : Array Slot) (a0 : Nat) (x1 : Int32) (x2 : Int32) (σ : za_h), za_I D ca n0 s σ H locs → lv_has ls 3 [(0, .ref a0), (1, .int x1), (2, .int x2)] → zf_Agreement_acceptNominate_4 n a0 x1 x2 σ = some (r, σ') → W p l e ({ frames := 4, cells := 0, slots := 0, locals := 90 }) s m ([.ref ay0] : List Value).toArray below meth c H locs 0 0 (MQ below (za_Qi D ca n0 r σ') ([.ref ay0] : List Value).toArray s 0 0 (za_A n0)) (F0 m 4 ls []) := by
    intro n
    induction n with
    | zero => intro H locs ls a0 x1 x2 σ hI hl h; rw [zf_Agreement_acceptNominate_4] at h; cases h
    | succ n ih =>
      intro H locs ls a0 x1 x2 σ hI hl h
      rw [zf_Agreement_acceptNominate_4] at h
      refine lv_iload_n hx hb zd_Agreement_acceptNominate_4 rfl (lv_at hl 2 rfl) ?_
      refine lv_bipush (v := nI 7) hx hb zd_Agreement_acceptNominate_5 (by decide) ?_
      refine lv_icmp_gt hx hb (tgt := 27) zd_Agreement_acceptNominate_7 (by decide) (fun c1 => ?_) (fun c1 => ?_)
      · replace h := zb_t c1 h
        refine lv_iload_n hx hb zd_Agreement_acceptNominate_27 rfl (lv_at hl 1 rfl) ?_
        obtain ⟨g2, h⟩ := zb_g h
        exact za_zret hx hb hr hlk hI g2 h (Nat.le_of_ble_eq_true rfl) (Nat.le_of_ble_eq_true rfl) zd_Agreement_acceptNominate_28
      · replace h := zb_f c1 h
        refine lv_iload_n hx hb zd_Agreement_acceptNominate_10 rfl (lv_at hl 1 rfl) ?_
        refine lv_aload_n hx hb zd_Agreement_acceptNominate_11 rfl (lv_at hl 0 rfl) ?_
        obtain ⟨b4, e3, h⟩ := zb_o h
        refine za_getr hx hb hts hown hK hI zl_Agreement_33 e3 zd_Agreement_acceptNominate_12 ?_
        refine lv_iload_n hx hb zd_Agreement_acceptNominate_15 rfl (lv_at hl 2 rfl) ?_
        obtain ⟨_, g5, h⟩ := zb_o h
        obtain ⟨⟨r6, σ7⟩, e8, h⟩ := zb_o h
        refine za_calli (za_runV hx hb hml hown hts hK hI g5 (zm_Statements_acceptIfMay e8) zj_Agreement_142 ⟨rfl, rfl⟩ ⟨Nat.le_of_ble_eq_true rfl, Nat.le_of_ble_eq_true rfl⟩ rfl hl.1 rfl (Nat.le_of_ble_eq_true rfl) zd_Agreement_acceptNominate_16 ⟨Nat.le_of_ble_eq_true rfl, Nat.le_of_ble_eq_true rfl⟩) hI (fun H locs hI => ?_)
        refine lv_ior hx hb zd_Agreement_acceptNominate_19 ?_
        refine lv_istore_n (lv' := [(1, .int (x1 ||| r6)), (0, .ref a0), (2, .int x2)]) hx hb zd_Agreement_acceptNominate_20 rfl hl (Nat.le_of_ble_eq_true rfl) rfl (fun ls hl => ?_)
        refine lv_iinc (k := 2) (v := (x2 + nI 1)) (lv' := [(2, .int (x2 + nI 1)), (1, .int (x1 ||| r6)), (0, .ref a0)]) hx hb zd_Agreement_acceptNominate_21 hl rfl rfl (Nat.le_of_ble_eq_true rfl) rfl (fun ls hl => ?_)
        refine lv_goto hx hb (tgt := 4) zd_Agreement_acceptNominate_24 (by decide) ?_
        exact ih _ _ ls a0 (x1 ||| r6) (x2 + nI 1) σ7 hI (lv_sub hl [2, 1, 0] rfl) h
  unfold zf_Agreement_acceptNominate at h
  refine lv_iconst (v := nI 0) hx hb zd_Agreement_acceptNominate_0 (by decide) ?_
  refine lv_istore_n (lv' := [(1, .int (nI 0)), (0, .ref ay0)]) hx hb zd_Agreement_acceptNominate_1 rfl hl (Nat.le_of_ble_eq_true rfl) rfl (fun ls hl => ?_)
  refine lv_iconst (v := nI 1) hx hb zd_Agreement_acceptNominate_2 (by decide) ?_
  refine lv_istore_n (lv' := [(2, .int (nI 1)), (1, .int (nI 0)), (0, .ref ay0)]) hx hb zd_Agreement_acceptNominate_3 rfl hl (Nat.le_of_ble_eq_true rfl) rfl (fun ls hl => ?_)
  exact B4 8 _ _ ls ay0 (nI 0) (nI 1) σ hI (lv_sub hl [2, 1, 0] rfl) h

def zf_Agreement_confirmNominate_4 : Nat → Nat → Int32 → Int32 → za_h → Option (Int32 × za_h)
  | 0, _, _, _, _ => none
  | n + 1, a0, x1, x2, σ =>
  if (nI 7) < x2 then
  (if x1 = 0 ∨ x1 = 1 then some (x1, σ) else none)
  else
  ((zg_r σ a0 1 3).bind fun b4 =>
  (zg_c σ b4 7).bind fun _ =>
  (zf_Statements_confirmIfMay b4 x2 σ).bind fun (r6, σ7) =>
  zf_Agreement_confirmNominate_4 n a0 (x1 ||| r6) (x2 + nI 1) σ7)

def zf_Agreement_confirmNominate (ay0 : Nat) (σ : za_h) : Option (Int32 × za_h) :=
  zf_Agreement_confirmNominate_4 8 ay0 (nI 0) (nI 1) σ
set_option maxRecDepth 100000 in
set_option maxHeartbeats 4000000 in
theorem zm_Agreement_confirmNominate {l : Launch} {D : va_G} {ca : Nat → ClassId} {n0 : Nat} {ay0 : Nat} {σ σ' : za_h} {r : Int32} (h : zf_Agreement_confirmNominate ay0 σ = some (r, σ')) : Met l zy_Agreement_confirmNominate (za_wy zy_Agreement_confirmNominate zc_Agreement_confirmNominate 3 (some .boolean)) { frames := 4, cells := 0, slots := 0, locals := 90 } (za_Pc D ca n0 [.ref ay0] σ) (za_Qi D ca n0 r σ') 0 0 (za_A n0) := by
  refine za_met (by decide) (Nat.le_of_ble_eq_true rfl) ?_
  intro p e s m below meth c ls hx hb hml hr hlk hts hown hnm hK hI hl
  replace hown : s.vm.findClass zR_Agreement = some m.cls := hown
  replace hl : lv_has ls 3 [(0, .ref ay0)] := hl
  have B4 : ∀ n : Nat, ∀ (H : Heap) (locs : List Loc) (ls : Array Slot) (a0 : Nat) (x1 : Int32) (x2 : Int32) (σ : za_h), za_I D ca n0 s σ H locs → lv_has ls 3 [(0, .ref a0), (1, .int x1), (2, .int x2)] → zf_Agreement_confirmNominate_4 n a0 x1 x2 σ = some (r, σ') → W p l e ({ frames := 4, cells := 0, slots := 0, locals := 90 }) s m ([.ref ay0] : List Value).toArray below meth c H locs 0 0 (MQ below (za_Qi D ca n0 r σ') ([.ref ay0] : List Value).toArray s 0 0 (za_A n0)) (F0 m 4 ls []) := by
    intro n
    induction n with
    | zero => intro H locs ls a0 x1 x2 σ hI hl h; rw [zf_Agreement_confirmNominate_4] at h; cases h
    | succ n ih =>
      intro H locs ls a0 x1 x2 σ hI hl h
      rw [zf_Agreement_confirmNominate_4] at h
      refine lv_iload_n hx hb zd_Agreement_confirmNominate_4 rfl (lv_at hl 2 rfl) ?_
      refine lv_bipush (v := nI 7) hx hb zd_Agreement_confirmNominate_5 (by decide) ?_
      refine lv_icmp_gt hx hb (tgt := 27) zd_Agreement_confirmNominate_7 (by decide) (fun c1 => ?_) (fun c1 => ?_)
      · replace h := zb_t c1 h
        refine lv_iload_n hx hb zd_Agreement_confirmNominate_27 rfl (lv_at hl 1 rfl) ?_
        obtain ⟨g2, h⟩ := zb_g h
        exact za_zret hx hb hr hlk hI g2 h (Nat.le_of_ble_eq_true rfl) (Nat.le_of_ble_eq_true rfl) zd_Agreement_confirmNominate_28
      · replace h := zb_f c1 h
        refine lv_iload_n hx hb zd_Agreement_confirmNominate_10 rfl (lv_at hl 1 rfl) ?_
        refine lv_aload_n hx hb zd_Agreement_confirmNominate_11 rfl (lv_at hl 0 rfl) ?_
        obtain ⟨b4, e3, h⟩ := zb_o h
        refine za_getr hx hb hts hown hK hI zl_Agreement_33 e3 zd_Agreement_confirmNominate_12 ?_
        refine lv_iload_n hx hb zd_Agreement_confirmNominate_15 rfl (lv_at hl 2 rfl) ?_
        obtain ⟨_, g5, h⟩ := zb_o h
        obtain ⟨⟨r6, σ7⟩, e8, h⟩ := zb_o h
        refine za_calli (za_runV hx hb hml hown hts hK hI g5 (zm_Statements_confirmIfMay e8) zj_Agreement_145 ⟨rfl, rfl⟩ ⟨Nat.le_of_ble_eq_true rfl, Nat.le_of_ble_eq_true rfl⟩ rfl hl.1 rfl (Nat.le_of_ble_eq_true rfl) zd_Agreement_confirmNominate_16 ⟨Nat.le_of_ble_eq_true rfl, Nat.le_of_ble_eq_true rfl⟩) hI (fun H locs hI => ?_)
        refine lv_ior hx hb zd_Agreement_confirmNominate_19 ?_
        refine lv_istore_n (lv' := [(1, .int (x1 ||| r6)), (0, .ref a0), (2, .int x2)]) hx hb zd_Agreement_confirmNominate_20 rfl hl (Nat.le_of_ble_eq_true rfl) rfl (fun ls hl => ?_)
        refine lv_iinc (k := 2) (v := (x2 + nI 1)) (lv' := [(2, .int (x2 + nI 1)), (1, .int (x1 ||| r6)), (0, .ref a0)]) hx hb zd_Agreement_confirmNominate_21 hl rfl rfl (Nat.le_of_ble_eq_true rfl) rfl (fun ls hl => ?_)
        refine lv_goto hx hb (tgt := 4) zd_Agreement_confirmNominate_24 (by decide) ?_
        exact ih _ _ ls a0 (x1 ||| r6) (x2 + nI 1) σ7 hI (lv_sub hl [2, 1, 0] rfl) h
  unfold zf_Agreement_confirmNominate at h
  refine lv_iconst (v := nI 0) hx hb zd_Agreement_confirmNominate_0 (by decide) ?_
  refine lv_istore_n (lv' := [(1, .int (nI 0)), (0, .ref ay0)]) hx hb zd_Agreement_confirmNominate_1 rfl hl (Nat.le_of_ble_eq_true rfl) rfl (fun ls hl => ?_)
  refine lv_iconst (v := nI 1) hx hb zd_Agreement_confirmNominate_2 (by decide) ?_
  refine lv_istore_n (lv' := [(2, .int (nI 1)), (1, .int (nI 0)), (0, .ref ay0)]) hx hb zd_Agreement_confirmNominate_3 rfl hl (Nat.le_of_ble_eq_true rfl) rfl (fun ls hl => ?_)
  exact B4 8 _ _ ls ay0 (nI 0) (nI 1) σ hI (lv_sub hl [2, 1, 0] rfl) h

def zf_Agreement_composite_28 (k4 : Nat → Int32 → Int32 → za_h → Option (Int32 × za_h)) (a0 : Nat) (x1 : Int32) (x2 : Int32) (σ : za_h) : Option (Int32 × za_h) :=
  k4 a0 x1 (x2 + nI 1) σ

def zf_Agreement_composite_4 : Nat → Nat → Int32 → Int32 → za_h → Option (Int32 × za_h)
  | 0, _, _, _, _ => none
  | n + 1, a0, x1, x2, σ =>
  if (nI 7) < x2 then
  (some (x1, σ))
  else
  ((zg_r σ a0 1 3).bind fun b3 =>
  (zg_i σ b3 7 3).bind fun v5 =>
  (zf_TL_has v5 x2 σ).bind fun (r6, σ7) =>
  if r6 = 0 then
  (zf_Agreement_composite_28 (zf_Agreement_composite_4 n) a0 x1 x2 σ7)
  else
  (zf_Agreement_composite_28 (zf_Agreement_composite_4 n) a0 (x1 ||| x2) x2 σ7))

def zf_Agreement_composite (ay0 : Nat) (σ : za_h) : Option (Int32 × za_h) :=
  zf_Agreement_composite_4 8 ay0 (nI 0) (nI 1) σ
set_option maxRecDepth 100000 in
set_option maxHeartbeats 4000000 in
theorem zm_Agreement_composite {l : Launch} {D : va_G} {ca : Nat → ClassId} {n0 : Nat} {ay0 : Nat} {σ σ' : za_h} {r : Int32} (h : zf_Agreement_composite ay0 σ = some (r, σ')) : Met l zy_Agreement_composite (za_wy zy_Agreement_composite zc_Agreement_composite 3 (some .int)) { frames := 1, cells := 0, slots := 0, locals := 21 } (za_Pc D ca n0 [.ref ay0] σ) (za_Qi D ca n0 r σ') 0 0 (za_A n0) := by
  refine za_met (by decide) (Nat.le_of_ble_eq_true rfl) ?_
  intro p e s m below meth c ls hx hb hml hr hlk hts hown hnm hK hI hl
  replace hown : s.vm.findClass zR_Agreement = some m.cls := hown
  replace hl : lv_has ls 3 [(0, .ref ay0)] := hl
  have B28 : ∀ (k4 : Nat → Int32 → Int32 → za_h → Option (Int32 × za_h)), (∀ (H : Heap) (locs : List Loc) (ls : Array Slot) (a0 : Nat) (x1 : Int32) (x2 : Int32) (σ : za_h), za_I D ca n0 s σ H locs → lv_has ls 3 [(0, .ref a0), (1, .int x1), (2, .int x2)] → k4 a0 x1 x2 σ = some (r, σ') → W p l e ({ frames := 1, cells := 0, slots := 0, locals := 21 }) s m ([.ref ay0] : List Value).toArray below meth c H locs 0 0 (MQ below (za_Qi D ca n0 r σ') ([.ref ay0] : List Value).toArray s 0 0 (za_A n0)) (F0 m 4 ls [])) → ∀ (H : Heap) (locs : List Loc) (ls : Array Slot) (a0 : Nat) (x1 : Int32) (x2 : Int32) (σ : za_h), za_I D ca n0 s σ H locs → lv_has ls 3 [(0, .ref a0), (1, .int x1), (2, .int x2)] → zf_Agreement_composite_28 k4 a0 x1 x2 σ = some (r, σ') → W p l e ({ frames := 1, cells := 0, slots := 0, locals := 21 }) s m ([.ref ay0] : List Value).toArray below meth c H locs 0 0 (MQ below (za_Qi D ca n0 r σ') ([.ref ay0] : List Value).toArray s 0 0 (za_A n0)) (F0 m 28 ls []) := by
    intro k4 hk4 H locs ls a0 x1 x2 σ hI hl h
    unfold zf_Agreement_composite_28 at h
    refine lv_iinc (k := 2) (v := (x2 + nI 1)) (lv' := [(2, .int (x2 + nI 1)), (0, .ref a0), (1, .int x1)]) hx hb zd_Agreement_composite_28 hl rfl rfl (Nat.le_of_ble_eq_true rfl) rfl (fun ls hl => ?_)
    refine lv_goto hx hb (tgt := 4) zd_Agreement_composite_31 (by decide) ?_
    exact hk4 _ _ ls a0 x1 (x2 + nI 1) σ hI (lv_sub hl [1, 2, 0] rfl) h
  have B4 : ∀ n : Nat, ∀ (H : Heap) (locs : List Loc) (ls : Array Slot) (a0 : Nat) (x1 : Int32) (x2 : Int32) (σ : za_h), za_I D ca n0 s σ H locs → lv_has ls 3 [(0, .ref a0), (1, .int x1), (2, .int x2)] → zf_Agreement_composite_4 n a0 x1 x2 σ = some (r, σ') → W p l e ({ frames := 1, cells := 0, slots := 0, locals := 21 }) s m ([.ref ay0] : List Value).toArray below meth c H locs 0 0 (MQ below (za_Qi D ca n0 r σ') ([.ref ay0] : List Value).toArray s 0 0 (za_A n0)) (F0 m 4 ls []) := by
    intro n
    induction n with
    | zero => intro H locs ls a0 x1 x2 σ hI hl h; rw [zf_Agreement_composite_4] at h; cases h
    | succ n ih =>
      intro H locs ls a0 x1 x2 σ hI hl h
      rw [zf_Agreement_composite_4] at h
      refine lv_iload_n hx hb zd_Agreement_composite_4 rfl (lv_at hl 2 rfl) ?_
      refine lv_bipush (v := nI 7) hx hb zd_Agreement_composite_5 (by decide) ?_
      refine lv_icmp_gt hx hb (tgt := 34) zd_Agreement_composite_7 (by decide) (fun c1 => ?_) (fun c1 => ?_)
      · replace h := zb_t c1 h
        refine lv_iload_n hx hb zd_Agreement_composite_34 rfl (lv_at hl 1 rfl) ?_
        exact za_iret hx hb hr hlk hI h (Nat.le_of_ble_eq_true rfl) (Nat.le_of_ble_eq_true rfl) zd_Agreement_composite_35
      · replace h := zb_f c1 h
        refine lv_aload_n hx hb zd_Agreement_composite_10 rfl (lv_at hl 0 rfl) ?_
        obtain ⟨b3, e2, h⟩ := zb_o h
        refine za_getr hx hb hts hown hK hI zl_Agreement_33 e2 zd_Agreement_composite_11 ?_
        obtain ⟨v5, e4, h⟩ := zb_o h
        refine za_geti hx hb hts hown hK hI zl_Agreement_131 e4 zd_Agreement_composite_14 ?_
        refine lv_iload_n hx hb zd_Agreement_composite_17 rfl (lv_at hl 2 rfl) ?_
        obtain ⟨⟨r6, σ7⟩, e8, h⟩ := zb_o h
        refine za_calli (za_runS hx hb hml hown hts hK hI (zm_TL_has e8) zj_Agreement_116 ⟨rfl, rfl⟩ ⟨Nat.le_of_ble_eq_true rfl, Nat.le_of_ble_eq_true rfl⟩ rfl hl.1 rfl (Nat.le_of_ble_eq_true rfl) zd_Agreement_composite_18 ⟨Nat.le_of_ble_eq_true rfl, Nat.le_of_ble_eq_true rfl⟩) hI (fun H locs hI => ?_)
        refine lv_if_eq hx hb (tgt := 28) zd_Agreement_composite_21 (by decide) (fun c9 => ?_) (fun c9 => ?_)
        · replace h := zb_t c9 h
          exact B28 _ ih _ _ ls a0 x1 x2 σ7 hI (lv_sub hl [0, 1, 2] rfl) h
        · replace h := zb_f c9 h
          refine lv_iload_n hx hb zd_Agreement_composite_24 rfl (lv_at hl 1 rfl) ?_
          refine lv_iload_n hx hb zd_Agreement_composite_25 rfl (lv_at hl 2 rfl) ?_
          refine lv_ior hx hb zd_Agreement_composite_26 ?_
          refine lv_istore_n (lv' := [(1, .int (x1 ||| x2)), (0, .ref a0), (2, .int x2)]) hx hb zd_Agreement_composite_27 rfl hl (Nat.le_of_ble_eq_true rfl) rfl (fun ls hl => ?_)
          exact B28 _ ih _ _ ls a0 (x1 ||| x2) x2 σ7 hI (lv_sub hl [1, 0, 2] rfl) h
  unfold zf_Agreement_composite at h
  refine lv_iconst (v := nI 0) hx hb zd_Agreement_composite_0 (by decide) ?_
  refine lv_istore_n (lv' := [(1, .int (nI 0)), (0, .ref ay0)]) hx hb zd_Agreement_composite_1 rfl hl (Nat.le_of_ble_eq_true rfl) rfl (fun ls hl => ?_)
  refine lv_iconst (v := nI 1) hx hb zd_Agreement_composite_2 (by decide) ?_
  refine lv_istore_n (lv' := [(2, .int (nI 1)), (1, .int (nI 0)), (0, .ref ay0)]) hx hb zd_Agreement_composite_3 rfl hl (Nat.le_of_ble_eq_true rfl) rfl (fun ls hl => ?_)
  exact B4 8 _ _ ls ay0 (nI 0) (nI 1) σ hI (lv_sub hl [2, 1, 0] rfl) h

def zf_Agreement_valueToPrepare_3 : Nat → Nat → Int32 → za_h → Option (Int32 × za_h)
  | 0, _, _, _ => none
  | n + 1, a0, x1, σ =>
  if x1 < 0 then
  ((zg_c σ a0 1).bind fun _ =>
  (zf_Agreement_composite a0 σ).bind fun (r3, σ4) =>
  some (r3, σ4))
  else
  ((zg_r σ a0 1 4).bind fun b7 =>
  (zg_i σ b7 7 3).bind fun v9 =>
  (zf_TL_has v9 x1 σ).bind fun (r10, σ11) =>
  if r10 = 0 then
  (zf_Agreement_valueToPrepare_3 n a0 (x1 + (-1)) σ11)
  else
  ((zf_TL_valueOf x1 σ11).bind fun (r14, σ15) =>
  some (r14, σ15)))

def zf_Agreement_valueToPrepare (ay0 : Nat) (σ : za_h) : Option (Int32 × za_h) :=
  zf_Agreement_valueToPrepare_3 29 ay0 (nI 27) σ
set_option maxRecDepth 100000 in
set_option maxHeartbeats 4000000 in
theorem zm_Agreement_valueToPrepare {l : Launch} {D : va_G} {ca : Nat → ClassId} {n0 : Nat} {ay0 : Nat} {σ σ' : za_h} {r : Int32} (h : zf_Agreement_valueToPrepare ay0 σ = some (r, σ')) : Met l zy_Agreement_valueToPrepare (za_wy zy_Agreement_valueToPrepare zc_Agreement_valueToPrepare 2 (some .int)) { frames := 2, cells := 0, slots := 0, locals := 43 } (za_Pc D ca n0 [.ref ay0] σ) (za_Qi D ca n0 r σ') 0 0 (za_A n0) := by
  refine za_met (by decide) (Nat.le_of_ble_eq_true rfl) ?_
  intro p e s m below meth c ls hx hb hml hr hlk hts hown hnm hK hI hl
  replace hown : s.vm.findClass zR_Agreement = some m.cls := hown
  replace hl : lv_has ls 2 [(0, .ref ay0)] := hl
  have B3 : ∀ n : Nat, ∀ (H : Heap) (locs : List Loc) (ls : Array Slot) (a0 : Nat) (x1 : Int32) (σ : za_h), za_I D ca n0 s σ H locs → lv_has ls 2 [(0, .ref a0), (1, .int x1)] → zf_Agreement_valueToPrepare_3 n a0 x1 σ = some (r, σ') → W p l e ({ frames := 2, cells := 0, slots := 0, locals := 43 }) s m ([.ref ay0] : List Value).toArray below meth c H locs 0 0 (MQ below (za_Qi D ca n0 r σ') ([.ref ay0] : List Value).toArray s 0 0 (za_A n0)) (F0 m 3 ls []) := by
    intro n
    induction n with
    | zero => intro H locs ls a0 x1 σ hI hl h; rw [zf_Agreement_valueToPrepare_3] at h; cases h
    | succ n ih =>
      intro H locs ls a0 x1 σ hI hl h
      rw [zf_Agreement_valueToPrepare_3] at h
      refine lv_iload_n hx hb zd_Agreement_valueToPrepare_3 rfl (lv_at hl 1 rfl) ?_
      refine lv_if_lt hx hb (tgt := 32) zd_Agreement_valueToPrepare_4 (by decide) (fun c1 => ?_) (fun c1 => ?_)
      · replace h := zb_t c1 h
        refine lv_aload_n hx hb zd_Agreement_valueToPrepare_32 rfl (lv_at hl 0 rfl) ?_
        obtain ⟨_, g2, h⟩ := zb_o h
        obtain ⟨⟨r3, σ4⟩, e5, h⟩ := zb_o h
        refine za_calli (za_runV hx hb hml hown hts hK hI g2 (zm_Agreement_composite e5) zj_Agreement_52 ⟨rfl, rfl⟩ ⟨Nat.le_of_ble_eq_true rfl, Nat.le_of_ble_eq_true rfl⟩ rfl hl.1 rfl (Nat.le_of_ble_eq_true rfl) zd_Agreement_valueToPrepare_33 ⟨Nat.le_of_ble_eq_true rfl, Nat.le_of_ble_eq_true rfl⟩) hI (fun H locs hI => ?_)
        exact za_iret hx hb hr hlk hI h (Nat.le_of_ble_eq_true rfl) (Nat.le_of_ble_eq_true rfl) zd_Agreement_valueToPrepare_36
      · replace h := zb_f c1 h
        refine lv_aload_n hx hb zd_Agreement_valueToPrepare_7 rfl (lv_at hl 0 rfl) ?_
        obtain ⟨b7, e6, h⟩ := zb_o h
        refine za_getr hx hb hts hown hK hI zl_Agreement_37 e6 zd_Agreement_valueToPrepare_8 ?_
        obtain ⟨v9, e8, h⟩ := zb_o h
        refine za_geti hx hb hts hown hK hI zl_Agreement_131 e8 zd_Agreement_valueToPrepare_11 ?_
        refine lv_iload_n hx hb zd_Agreement_valueToPrepare_14 rfl (lv_at hl 1 rfl) ?_
        obtain ⟨⟨r10, σ11⟩, e12, h⟩ := zb_o h
        refine za_calli (za_runS hx hb hml hown hts hK hI (zm_TL_has e12) zj_Agreement_116 ⟨rfl, rfl⟩ ⟨Nat.le_of_ble_eq_true rfl, Nat.le_of_ble_eq_true rfl⟩ rfl hl.1 rfl (Nat.le_of_ble_eq_true rfl) zd_Agreement_valueToPrepare_15 ⟨Nat.le_of_ble_eq_true rfl, Nat.le_of_ble_eq_true rfl⟩) hI (fun H locs hI => ?_)
        refine lv_if_eq hx hb (tgt := 26) zd_Agreement_valueToPrepare_18 (by decide) (fun c13 => ?_) (fun c13 => ?_)
        · replace h := zb_t c13 h
          refine lv_iinc (k := 1) (v := (x1 + (-1))) (lv' := [(1, .int (x1 + (-1))), (0, .ref a0)]) hx hb zd_Agreement_valueToPrepare_26 hl rfl rfl (Nat.le_of_ble_eq_true rfl) rfl (fun ls hl => ?_)
          refine lv_goto hx hb (tgt := 3) zd_Agreement_valueToPrepare_29 (by decide) ?_
          exact ih _ _ ls a0 (x1 + (-1)) σ11 hI (lv_sub hl [1, 0] rfl) h
        · replace h := zb_f c13 h
          refine lv_iload_n hx hb zd_Agreement_valueToPrepare_21 rfl (lv_at hl 1 rfl) ?_
          obtain ⟨⟨r14, σ15⟩, e16, h⟩ := zb_o h
          refine za_calli (za_runS hx hb hml hown hts hK hI (zm_TL_valueOf e16) zj_Agreement_134 ⟨rfl, rfl⟩ ⟨Nat.le_of_ble_eq_true rfl, Nat.le_of_ble_eq_true rfl⟩ rfl hl.1 rfl (Nat.le_of_ble_eq_true rfl) zd_Agreement_valueToPrepare_22 ⟨Nat.le_of_ble_eq_true rfl, Nat.le_of_ble_eq_true rfl⟩) hI (fun H locs hI => ?_)
          exact za_iret hx hb hr hlk hI h (Nat.le_of_ble_eq_true rfl) (Nat.le_of_ble_eq_true rfl) zd_Agreement_valueToPrepare_25
  unfold zf_Agreement_valueToPrepare at h
  refine lv_bipush (v := nI 27) hx hb zd_Agreement_valueToPrepare_0 (by decide) ?_
  refine lv_istore_n (lv' := [(1, .int (nI 27)), (0, .ref ay0)]) hx hb zd_Agreement_valueToPrepare_2 rfl hl (Nat.le_of_ble_eq_true rfl) rfl (fun ls hl => ?_)
  exact B3 29 _ _ ls ay0 (nI 27) σ hI (lv_sub hl [1, 0] rfl) h

def zf_Agreement_raiseCounter (ay0 : Nat) (σ : za_h) : Option (Unit × za_h) :=
  (zg_i σ ay0 1 9).bind fun v2 =>
  (zp_f σ ay0 1 9 (.int (v2 + (nI 1)))).bind fun σ4 =>
  (zg_r σ4 ay0 1 4).bind fun b6 =>
  (zg_i σ4 ay0 1 9).bind fun v8 =>
  (zg_c σ4 ay0 1).bind fun _ =>
  (zf_Agreement_valueToPrepare ay0 σ4).bind fun (r10, σ11) =>
  (zf_TL_ballotOf v8 r10 σ11).bind fun (r13, σ14) =>
  (zg_c σ14 b6 7).bind fun _ =>
  (zf_Statements_vote b6 r13 σ14).bind fun (r17, σ18) =>
  some ((), σ18)
set_option maxRecDepth 100000 in
set_option maxHeartbeats 4000000 in
theorem zm_Agreement_raiseCounter {l : Launch} {D : va_G} {ca : Nat → ClassId} {n0 : Nat} {ay0 : Nat} {σ σ' : za_h} {r : Unit} (h : zf_Agreement_raiseCounter ay0 σ = some (r, σ')) : Met l zy_Agreement_raiseCounter (za_wy zy_Agreement_raiseCounter zc_Agreement_raiseCounter 1 none) { frames := 3, cells := 0, slots := 0, locals := 64 } (za_Pc D ca n0 [.ref ay0] σ) (za_Qv D ca n0 r σ') 0 0 (za_A n0) := by
  refine za_met (by decide) (Nat.le_of_ble_eq_true rfl) ?_
  intro p e s m below meth c ls hx hb hml hr hlk hts hown hnm hK hI hl
  replace hown : s.vm.findClass zR_Agreement = some m.cls := hown
  replace hl : lv_has ls 1 [(0, .ref ay0)] := hl
  unfold zf_Agreement_raiseCounter at h
  refine lv_aload_n hx hb zd_Agreement_raiseCounter_0 rfl (lv_at hl 0 rfl) ?_
  refine lv_dup hx hb zd_Agreement_raiseCounter_1 rfl ?_
  obtain ⟨v2, e1, h⟩ := zb_o h
  refine za_geti hx hb hts hown hK hI zl_Agreement_49 e1 zd_Agreement_raiseCounter_2 ?_
  refine lv_iconst (v := nI 1) hx hb zd_Agreement_raiseCounter_5 (by decide) ?_
  refine lv_iadd hx hb zd_Agreement_raiseCounter_6 ?_
  obtain ⟨σ4, e3, h⟩ := zb_o h
  refine za_put hx hb hts hown hK hI zl_Agreement_49 e3 rfl rfl zd_Agreement_raiseCounter_7 (fun H locs hI => ?_)
  refine lv_aload_n hx hb zd_Agreement_raiseCounter_10 rfl (lv_at hl 0 rfl) ?_
  obtain ⟨b6, e5, h⟩ := zb_o h
  refine za_getr hx hb hts hown hK hI zl_Agreement_37 e5 zd_Agreement_raiseCounter_11 ?_
  refine lv_aload_n hx hb zd_Agreement_raiseCounter_14 rfl (lv_at hl 0 rfl) ?_
  obtain ⟨v8, e7, h⟩ := zb_o h
  refine za_geti hx hb hts hown hK hI zl_Agreement_49 e7 zd_Agreement_raiseCounter_15 ?_
  refine lv_aload_n hx hb zd_Agreement_raiseCounter_18 rfl (lv_at hl 0 rfl) ?_
  obtain ⟨_, g9, h⟩ := zb_o h
  obtain ⟨⟨r10, σ11⟩, e12, h⟩ := zb_o h
  refine za_calli (za_runV hx hb hml hown hts hK hI g9 (zm_Agreement_valueToPrepare e12) zj_Agreement_120 ⟨rfl, rfl⟩ ⟨Nat.le_of_ble_eq_true rfl, Nat.le_of_ble_eq_true rfl⟩ rfl hl.1 rfl (Nat.le_of_ble_eq_true rfl) zd_Agreement_raiseCounter_19 ⟨Nat.le_of_ble_eq_true rfl, Nat.le_of_ble_eq_true rfl⟩) hI (fun H locs hI => ?_)
  obtain ⟨⟨r13, σ14⟩, e15, h⟩ := zb_o h
  refine za_calli (za_runS hx hb hml hown hts hK hI (zm_TL_ballotOf e15) zj_Agreement_123 ⟨rfl, rfl⟩ ⟨Nat.le_of_ble_eq_true rfl, Nat.le_of_ble_eq_true rfl⟩ rfl hl.1 rfl (Nat.le_of_ble_eq_true rfl) zd_Agreement_raiseCounter_22 ⟨Nat.le_of_ble_eq_true rfl, Nat.le_of_ble_eq_true rfl⟩) hI (fun H locs hI => ?_)
  obtain ⟨_, g16, h⟩ := zb_o h
  obtain ⟨⟨r17, σ18⟩, e19, h⟩ := zb_o h
  refine za_calli (za_runV hx hb hml hown hts hK hI g16 (zm_Statements_vote e19) zj_Agreement_127 ⟨rfl, rfl⟩ ⟨Nat.le_of_ble_eq_true rfl, Nat.le_of_ble_eq_true rfl⟩ rfl hl.1 rfl (Nat.le_of_ble_eq_true rfl) zd_Agreement_raiseCounter_25 ⟨Nat.le_of_ble_eq_true rfl, Nat.le_of_ble_eq_true rfl⟩) hI (fun H locs hI => ?_)
  refine lv_pop hx hb zd_Agreement_raiseCounter_28 rfl ?_
  exact za_vret hx hb hr hlk hI h (Nat.le_of_ble_eq_true rfl) (Nat.le_of_ble_eq_true rfl) zd_Agreement_raiseCounter_29

def zf_Agreement_beginPrepare_14  (σ : za_h) : Option (Int32 × za_h) :=
  some ((nI 0), σ)

def zf_Agreement_beginPrepare (ay0 : Nat) (σ : za_h) : Option (Int32 × za_h) :=
  (zg_i σ ay0 1 9).bind fun v2 =>
  if v2 = 0 then
  ((zg_c σ ay0 1).bind fun _ =>
  (zf_Agreement_composite ay0 σ).bind fun (r5, σ6) =>
  if r5 = 0 then
  (zf_Agreement_beginPrepare_14 σ6)
  else
  ((zg_c σ6 ay0 1).bind fun _ =>
  (zf_Agreement_raiseCounter ay0 σ6).bind fun (_, σ11) =>
  some ((nI 1), σ11)))
  else
  (zf_Agreement_beginPrepare_14 σ)
set_option maxRecDepth 100000 in
set_option maxHeartbeats 4000000 in
theorem zm_Agreement_beginPrepare {l : Launch} {D : va_G} {ca : Nat → ClassId} {n0 : Nat} {ay0 : Nat} {σ σ' : za_h} {r : Int32} (h : zf_Agreement_beginPrepare ay0 σ = some (r, σ')) : Met l zy_Agreement_beginPrepare (za_wy zy_Agreement_beginPrepare zc_Agreement_beginPrepare 1 (some .boolean)) { frames := 4, cells := 0, slots := 0, locals := 84 } (za_Pc D ca n0 [.ref ay0] σ) (za_Qi D ca n0 r σ') 0 0 (za_A n0) := by
  refine za_met (by decide) (Nat.le_of_ble_eq_true rfl) ?_
  intro p e s m below meth c ls hx hb hml hr hlk hts hown hnm hK hI hl
  replace hown : s.vm.findClass zR_Agreement = some m.cls := hown
  replace hl : lv_has ls 1 [(0, .ref ay0)] := hl
  have B14 : ∀ (H : Heap) (locs : List Loc) (ls : Array Slot) (σ : za_h), za_I D ca n0 s σ H locs → lv_has ls 1 [] → zf_Agreement_beginPrepare_14 σ = some (r, σ') → W p l e ({ frames := 4, cells := 0, slots := 0, locals := 84 }) s m ([.ref ay0] : List Value).toArray below meth c H locs 0 0 (MQ below (za_Qi D ca n0 r σ') ([.ref ay0] : List Value).toArray s 0 0 (za_A n0)) (F0 m 14 ls []) := by
    intro H locs ls σ hI hl h
    unfold zf_Agreement_beginPrepare_14 at h
    refine lv_iconst (v := nI 0) hx hb zd_Agreement_beginPrepare_14 (by decide) ?_
    exact za_zret hx hb hr hlk hI (by decide) h (Nat.le_of_ble_eq_true rfl) (Nat.le_of_ble_eq_true rfl) zd_Agreement_beginPrepare_15
  unfold zf_Agreement_beginPrepare at h
  refine lv_aload_n hx hb zd_Agreement_beginPrepare_0 rfl (lv_at hl 0 rfl) ?_
  obtain ⟨v2, e1, h⟩ := zb_o h
  refine za_geti hx hb hts hown hK hI zl_Agreement_49 e1 zd_Agreement_beginPrepare_1 ?_
  refine lv_if_ne hx hb (tgt := 14) zd_Agreement_beginPrepare_4 (by decide) (fun c3 => ?_) (fun c3 => ?_)
  · replace h := zb_f c3 h
    exact B14 _ _ ls σ hI (lv_sub hl [] rfl) h
  · replace h := zb_t c3 h
    refine lv_aload_n hx hb zd_Agreement_beginPrepare_7 rfl (lv_at hl 0 rfl) ?_
    obtain ⟨_, g4, h⟩ := zb_o h
    obtain ⟨⟨r5, σ6⟩, e7, h⟩ := zb_o h
    refine za_calli (za_runV hx hb hml hown hts hK hI g4 (zm_Agreement_composite e7) zj_Agreement_52 ⟨rfl, rfl⟩ ⟨Nat.le_of_ble_eq_true rfl, Nat.le_of_ble_eq_true rfl⟩ rfl hl.1 rfl (Nat.le_of_ble_eq_true rfl) zd_Agreement_beginPrepare_8 ⟨Nat.le_of_ble_eq_true rfl, Nat.le_of_ble_eq_true rfl⟩) hI (fun H locs hI => ?_)
    refine lv_if_ne hx hb (tgt := 16) zd_Agreement_beginPrepare_11 (by decide) (fun c8 => ?_) (fun c8 => ?_)
    · replace h := zb_f c8 h
      refine lv_aload_n hx hb zd_Agreement_beginPrepare_16 rfl (lv_at hl 0 rfl) ?_
      obtain ⟨_, g9, h⟩ := zb_o h
      obtain ⟨⟨r10, σ11⟩, e12, h⟩ := zb_o h
      refine za_callv (za_runV hx hb hml hown hts hK hI g9 (zm_Agreement_raiseCounter e12) zj_Agreement_62 ⟨rfl, rfl⟩ ⟨Nat.le_of_ble_eq_true rfl, Nat.le_of_ble_eq_true rfl⟩ rfl hl.1 rfl (Nat.le_of_ble_eq_true rfl) zd_Agreement_beginPrepare_17 ⟨Nat.le_of_ble_eq_true rfl, Nat.le_of_ble_eq_true rfl⟩) hI (fun H locs hI => ?_)
      refine lv_iconst (v := nI 1) hx hb zd_Agreement_beginPrepare_20 (by decide) ?_
      exact za_zret hx hb hr hlk hI (by decide) h (Nat.le_of_ble_eq_true rfl) (Nat.le_of_ble_eq_true rfl) zd_Agreement_beginPrepare_21
    · replace h := zb_t c8 h
      exact B14 _ _ ls σ6 hI (lv_sub hl [] rfl) h

def zf_Agreement_acceptPrepare_41 (k4 : Nat → Int32 → Int32 → za_h → Option (Int32 × za_h)) (a0 : Nat) (x1 : Int32) (x2 : Int32) (σ : za_h) : Option (Int32 × za_h) :=
  k4 a0 x1 (x2 + nI 1) σ

def zf_Agreement_acceptPrepare_4 : Nat → Nat → Int32 → Int32 → za_h → Option (Int32 × za_h)
  | 0, _, _, _, _ => none
  | n + 1, a0, x1, x2, σ =>
  if (nI 28) ≤ x2 then
  (if x1 = 0 ∨ x1 = 1 then some (x1, σ) else none)
  else
  ((zg_r σ a0 1 5).bind fun b4 =>
  (zg_r σ b4 7 5).bind fun b6 =>
  (zg_i σ a0 1 0).bind fun v8 =>
  (za_ld σ b6 0 v8).bind fun v9 =>
  (zf_TL_abortedBy x2 σ).bind fun (r11, σ12) =>
  if (v9 &&& r11) = 0 then
  ((zg_r σ12 a0 1 4).bind fun b16 =>
  (zg_c σ12 b16 7).bind fun _ =>
  (zf_Statements_acceptIfMay b16 x2 σ12).bind fun (r18, σ19) =>
  zf_Agreement_acceptPrepare_41 (zf_Agreement_acceptPrepare_4 n) a0 (x1 ||| r18) x2 σ19)
  else
  (zf_Agreement_acceptPrepare_41 (zf_Agreement_acceptPrepare_4 n) a0 x1 x2 σ12))

def zf_Agreement_acceptPrepare (ay0 : Nat) (σ : za_h) : Option (Int32 × za_h) :=
  zf_Agreement_acceptPrepare_4 29 ay0 (nI 0) (nI 0) σ
set_option maxRecDepth 100000 in
set_option maxHeartbeats 4000000 in
theorem zm_Agreement_acceptPrepare {l : Launch} {D : va_G} {ca : Nat → ClassId} {n0 : Nat} {ay0 : Nat} {σ σ' : za_h} {r : Int32} (h : zf_Agreement_acceptPrepare ay0 σ = some (r, σ')) : Met l zy_Agreement_acceptPrepare (za_wy zy_Agreement_acceptPrepare zc_Agreement_acceptPrepare 3 (some .boolean)) { frames := 4, cells := 0, slots := 0, locals := 90 } (za_Pc D ca n0 [.ref ay0] σ) (za_Qi D ca n0 r σ') 0 0 (za_A n0) := by
  refine za_met (by decide) (Nat.le_of_ble_eq_true rfl) ?_
  intro p e s m below meth c ls hx hb hml hr hlk hts hown hnm hK hI hl
  replace hown : s.vm.findClass zR_Agreement = some m.cls := hown
  replace hl : lv_has ls 3 [(0, .ref ay0)] := hl
  have B41 : ∀ (k4 : Nat → Int32 → Int32 → za_h → Option (Int32 × za_h)), (∀ (H : Heap) (locs : List Loc) (ls : Array Slot) (a0 : Nat) (x1 : Int32) (x2 : Int32) (σ : za_h), za_I D ca n0 s σ H locs → lv_has ls 3 [(0, .ref a0), (1, .int x1), (2, .int x2)] → k4 a0 x1 x2 σ = some (r, σ') → W p l e ({ frames := 4, cells := 0, slots := 0, locals := 90 }) s m ([.ref ay0] : List Value).toArray below meth c H locs 0 0 (MQ below (za_Qi D ca n0 r σ') ([.ref ay0] : List Value).toArray s 0 0 (za_A n0)) (F0 m 4 ls [])) → ∀ (H : Heap) (locs : List Loc) (ls : Array Slot) (a0 : Nat) (x1 : Int32) (x2 : Int32) (σ : za_h), za_I D ca n0 s σ H locs → lv_has ls 3 [(0, .ref a0), (1, .int x1), (2, .int x2)] → zf_Agreement_acceptPrepare_41 k4 a0 x1 x2 σ = some (r, σ') → W p l e ({ frames := 4, cells := 0, slots := 0, locals := 90 }) s m ([.ref ay0] : List Value).toArray below meth c H locs 0 0 (MQ below (za_Qi D ca n0 r σ') ([.ref ay0] : List Value).toArray s 0 0 (za_A n0)) (F0 m 41 ls []) := by
    intro k4 hk4 H locs ls a0 x1 x2 σ hI hl h
    unfold zf_Agreement_acceptPrepare_41 at h
    refine lv_iinc (k := 2) (v := (x2 + nI 1)) (lv' := [(2, .int (x2 + nI 1)), (0, .ref a0), (1, .int x1)]) hx hb zd_Agreement_acceptPrepare_41 hl rfl rfl (Nat.le_of_ble_eq_true rfl) rfl (fun ls hl => ?_)
    refine lv_goto hx hb (tgt := 4) zd_Agreement_acceptPrepare_44 (by decide) ?_
    exact hk4 _ _ ls a0 x1 (x2 + nI 1) σ hI (lv_sub hl [1, 2, 0] rfl) h
  have B4 : ∀ n : Nat, ∀ (H : Heap) (locs : List Loc) (ls : Array Slot) (a0 : Nat) (x1 : Int32) (x2 : Int32) (σ : za_h), za_I D ca n0 s σ H locs → lv_has ls 3 [(0, .ref a0), (1, .int x1), (2, .int x2)] → zf_Agreement_acceptPrepare_4 n a0 x1 x2 σ = some (r, σ') → W p l e ({ frames := 4, cells := 0, slots := 0, locals := 90 }) s m ([.ref ay0] : List Value).toArray below meth c H locs 0 0 (MQ below (za_Qi D ca n0 r σ') ([.ref ay0] : List Value).toArray s 0 0 (za_A n0)) (F0 m 4 ls []) := by
    intro n
    induction n with
    | zero => intro H locs ls a0 x1 x2 σ hI hl h; rw [zf_Agreement_acceptPrepare_4] at h; cases h
    | succ n ih =>
      intro H locs ls a0 x1 x2 σ hI hl h
      rw [zf_Agreement_acceptPrepare_4] at h
      refine lv_iload_n hx hb zd_Agreement_acceptPrepare_4 rfl (lv_at hl 2 rfl) ?_
      refine lv_bipush (v := nI 28) hx hb zd_Agreement_acceptPrepare_5 (by decide) ?_
      refine lv_icmp_ge hx hb (tgt := 47) zd_Agreement_acceptPrepare_7 (by decide) (fun c1 => ?_) (fun c1 => ?_)
      · replace h := zb_t c1 h
        refine lv_iload_n hx hb zd_Agreement_acceptPrepare_47 rfl (lv_at hl 1 rfl) ?_
        obtain ⟨g2, h⟩ := zb_g h
        exact za_zret hx hb hr hlk hI g2 h (Nat.le_of_ble_eq_true rfl) (Nat.le_of_ble_eq_true rfl) zd_Agreement_acceptPrepare_48
      · replace h := zb_f c1 h
        refine lv_aload_n hx hb zd_Agreement_acceptPrepare_10 rfl (lv_at hl 0 rfl) ?_
        obtain ⟨b4, e3, h⟩ := zb_o h
        refine za_getr hx hb hts hown hK hI zl_Agreement_40 e3 zd_Agreement_acceptPrepare_11 ?_
        obtain ⟨b6, e5, h⟩ := zb_o h
        refine za_getr hx hb hts hown hK hI zl_Agreement_79 e5 zd_Agreement_acceptPrepare_14 ?_
        refine lv_aload_n hx hb zd_Agreement_acceptPrepare_17 rfl (lv_at hl 0 rfl) ?_
        obtain ⟨v8, e7, h⟩ := zb_o h
        refine za_geti hx hb hts hown hK hI zl_Agreement_9 e7 zd_Agreement_acceptPrepare_18 ?_
        obtain ⟨v9, e10, h⟩ := zb_o h
        refine za_iald hx hb hK hI e10 zd_Agreement_acceptPrepare_21 ?_
        refine lv_iload_n hx hb zd_Agreement_acceptPrepare_22 rfl (lv_at hl 2 rfl) ?_
        obtain ⟨⟨r11, σ12⟩, e13, h⟩ := zb_o h
        refine za_calli (za_runS hx hb hml hown hts hK hI (zm_TL_abortedBy e13) zj_Agreement_148 ⟨rfl, rfl⟩ ⟨Nat.le_of_ble_eq_true rfl, Nat.le_of_ble_eq_true rfl⟩ rfl hl.1 rfl (Nat.le_of_ble_eq_true rfl) zd_Agreement_acceptPrepare_23 ⟨Nat.le_of_ble_eq_true rfl, Nat.le_of_ble_eq_true rfl⟩) hI (fun H locs hI => ?_)
        refine lv_iand hx hb zd_Agreement_acceptPrepare_26 ?_
        refine lv_if_ne hx hb (tgt := 41) zd_Agreement_acceptPrepare_27 (by decide) (fun c14 => ?_) (fun c14 => ?_)
        · replace h := zb_f c14 h
          exact B41 _ ih _ _ ls a0 x1 x2 σ12 hI (lv_sub hl [0, 1, 2] rfl) h
        · replace h := zb_t c14 h
          refine lv_iload_n hx hb zd_Agreement_acceptPrepare_30 rfl (lv_at hl 1 rfl) ?_
          refine lv_aload_n hx hb zd_Agreement_acceptPrepare_31 rfl (lv_at hl 0 rfl) ?_
          obtain ⟨b16, e15, h⟩ := zb_o h
          refine za_getr hx hb hts hown hK hI zl_Agreement_37 e15 zd_Agreement_acceptPrepare_32 ?_
          refine lv_iload_n hx hb zd_Agreement_acceptPrepare_35 rfl (lv_at hl 2 rfl) ?_
          obtain ⟨_, g17, h⟩ := zb_o h
          obtain ⟨⟨r18, σ19⟩, e20, h⟩ := zb_o h
          refine za_calli (za_runV hx hb hml hown hts hK hI g17 (zm_Statements_acceptIfMay e20) zj_Agreement_142 ⟨rfl, rfl⟩ ⟨Nat.le_of_ble_eq_true rfl, Nat.le_of_ble_eq_true rfl⟩ rfl hl.1 rfl (Nat.le_of_ble_eq_true rfl) zd_Agreement_acceptPrepare_36 ⟨Nat.le_of_ble_eq_true rfl, Nat.le_of_ble_eq_true rfl⟩) hI (fun H locs hI => ?_)
          refine lv_ior hx hb zd_Agreement_acceptPrepare_39 ?_
          refine lv_istore_n (lv' := [(1, .int (x1 ||| r18)), (0, .ref a0), (2, .int x2)]) hx hb zd_Agreement_acceptPrepare_40 rfl hl (Nat.le_of_ble_eq_true rfl) rfl (fun ls hl => ?_)
          exact B41 _ ih _ _ ls a0 (x1 ||| r18) x2 σ19 hI (lv_sub hl [1, 0, 2] rfl) h
  unfold zf_Agreement_acceptPrepare at h
  refine lv_iconst (v := nI 0) hx hb zd_Agreement_acceptPrepare_0 (by decide) ?_
  refine lv_istore_n (lv' := [(1, .int (nI 0)), (0, .ref ay0)]) hx hb zd_Agreement_acceptPrepare_1 rfl hl (Nat.le_of_ble_eq_true rfl) rfl (fun ls hl => ?_)
  refine lv_iconst (v := nI 0) hx hb zd_Agreement_acceptPrepare_2 (by decide) ?_
  refine lv_istore_n (lv' := [(2, .int (nI 0)), (1, .int (nI 0)), (0, .ref ay0)]) hx hb zd_Agreement_acceptPrepare_3 rfl hl (Nat.le_of_ble_eq_true rfl) rfl (fun ls hl => ?_)
  exact B4 29 _ _ ls ay0 (nI 0) (nI 0) σ hI (lv_sub hl [2, 1, 0] rfl) h

def zf_Agreement_confirmPrepare_4 : Nat → Nat → Int32 → Int32 → za_h → Option (Int32 × za_h)
  | 0, _, _, _, _ => none
  | n + 1, a0, x1, x2, σ =>
  if (nI 28) ≤ x2 then
  (if x1 = 0 ∨ x1 = 1 then some (x1, σ) else none)
  else
  ((zg_r σ a0 1 4).bind fun b4 =>
  (zg_c σ b4 7).bind fun _ =>
  (zf_Statements_confirmIfMay b4 x2 σ).bind fun (r6, σ7) =>
  zf_Agreement_confirmPrepare_4 n a0 (x1 ||| r6) (x2 + nI 1) σ7)

def zf_Agreement_confirmPrepare (ay0 : Nat) (σ : za_h) : Option (Int32 × za_h) :=
  zf_Agreement_confirmPrepare_4 29 ay0 (nI 0) (nI 0) σ
set_option maxRecDepth 100000 in
set_option maxHeartbeats 4000000 in
theorem zm_Agreement_confirmPrepare {l : Launch} {D : va_G} {ca : Nat → ClassId} {n0 : Nat} {ay0 : Nat} {σ σ' : za_h} {r : Int32} (h : zf_Agreement_confirmPrepare ay0 σ = some (r, σ')) : Met l zy_Agreement_confirmPrepare (za_wy zy_Agreement_confirmPrepare zc_Agreement_confirmPrepare 3 (some .boolean)) { frames := 4, cells := 0, slots := 0, locals := 90 } (za_Pc D ca n0 [.ref ay0] σ) (za_Qi D ca n0 r σ') 0 0 (za_A n0) := by
  refine za_met (by decide) (Nat.le_of_ble_eq_true rfl) ?_
  intro p e s m below meth c ls hx hb hml hr hlk hts hown hnm hK hI hl
  replace hown : s.vm.findClass zR_Agreement = some m.cls := hown
  replace hl : lv_has ls 3 [(0, .ref ay0)] := hl
  have B4 : ∀ n : Nat, ∀ (H : Heap) (locs : List Loc) (ls : Array Slot) (a0 : Nat) (x1 : Int32) (x2 : Int32) (σ : za_h), za_I D ca n0 s σ H locs → lv_has ls 3 [(0, .ref a0), (1, .int x1), (2, .int x2)] → zf_Agreement_confirmPrepare_4 n a0 x1 x2 σ = some (r, σ') → W p l e ({ frames := 4, cells := 0, slots := 0, locals := 90 }) s m ([.ref ay0] : List Value).toArray below meth c H locs 0 0 (MQ below (za_Qi D ca n0 r σ') ([.ref ay0] : List Value).toArray s 0 0 (za_A n0)) (F0 m 4 ls []) := by
    intro n
    induction n with
    | zero => intro H locs ls a0 x1 x2 σ hI hl h; rw [zf_Agreement_confirmPrepare_4] at h; cases h
    | succ n ih =>
      intro H locs ls a0 x1 x2 σ hI hl h
      rw [zf_Agreement_confirmPrepare_4] at h
      refine lv_iload_n hx hb zd_Agreement_confirmPrepare_4 rfl (lv_at hl 2 rfl) ?_
      refine lv_bipush (v := nI 28) hx hb zd_Agreement_confirmPrepare_5 (by decide) ?_
      refine lv_icmp_ge hx hb (tgt := 27) zd_Agreement_confirmPrepare_7 (by decide) (fun c1 => ?_) (fun c1 => ?_)
      · replace h := zb_t c1 h
        refine lv_iload_n hx hb zd_Agreement_confirmPrepare_27 rfl (lv_at hl 1 rfl) ?_
        obtain ⟨g2, h⟩ := zb_g h
        exact za_zret hx hb hr hlk hI g2 h (Nat.le_of_ble_eq_true rfl) (Nat.le_of_ble_eq_true rfl) zd_Agreement_confirmPrepare_28
      · replace h := zb_f c1 h
        refine lv_iload_n hx hb zd_Agreement_confirmPrepare_10 rfl (lv_at hl 1 rfl) ?_
        refine lv_aload_n hx hb zd_Agreement_confirmPrepare_11 rfl (lv_at hl 0 rfl) ?_
        obtain ⟨b4, e3, h⟩ := zb_o h
        refine za_getr hx hb hts hown hK hI zl_Agreement_37 e3 zd_Agreement_confirmPrepare_12 ?_
        refine lv_iload_n hx hb zd_Agreement_confirmPrepare_15 rfl (lv_at hl 2 rfl) ?_
        obtain ⟨_, g5, h⟩ := zb_o h
        obtain ⟨⟨r6, σ7⟩, e8, h⟩ := zb_o h
        refine za_calli (za_runV hx hb hml hown hts hK hI g5 (zm_Statements_confirmIfMay e8) zj_Agreement_145 ⟨rfl, rfl⟩ ⟨Nat.le_of_ble_eq_true rfl, Nat.le_of_ble_eq_true rfl⟩ rfl hl.1 rfl (Nat.le_of_ble_eq_true rfl) zd_Agreement_confirmPrepare_16 ⟨Nat.le_of_ble_eq_true rfl, Nat.le_of_ble_eq_true rfl⟩) hI (fun H locs hI => ?_)
        refine lv_ior hx hb zd_Agreement_confirmPrepare_19 ?_
        refine lv_istore_n (lv' := [(1, .int (x1 ||| r6)), (0, .ref a0), (2, .int x2)]) hx hb zd_Agreement_confirmPrepare_20 rfl hl (Nat.le_of_ble_eq_true rfl) rfl (fun ls hl => ?_)
        refine lv_iinc (k := 2) (v := (x2 + nI 1)) (lv' := [(2, .int (x2 + nI 1)), (1, .int (x1 ||| r6)), (0, .ref a0)]) hx hb zd_Agreement_confirmPrepare_21 hl rfl rfl (Nat.le_of_ble_eq_true rfl) rfl (fun ls hl => ?_)
        refine lv_goto hx hb (tgt := 4) zd_Agreement_confirmPrepare_24 (by decide) ?_
        exact ih _ _ ls a0 (x1 ||| r6) (x2 + nI 1) σ7 hI (lv_sub hl [2, 1, 0] rfl) h
  unfold zf_Agreement_confirmPrepare at h
  refine lv_iconst (v := nI 0) hx hb zd_Agreement_confirmPrepare_0 (by decide) ?_
  refine lv_istore_n (lv' := [(1, .int (nI 0)), (0, .ref ay0)]) hx hb zd_Agreement_confirmPrepare_1 rfl hl (Nat.le_of_ble_eq_true rfl) rfl (fun ls hl => ?_)
  refine lv_iconst (v := nI 0) hx hb zd_Agreement_confirmPrepare_2 (by decide) ?_
  refine lv_istore_n (lv' := [(2, .int (nI 0)), (1, .int (nI 0)), (0, .ref ay0)]) hx hb zd_Agreement_confirmPrepare_3 rfl hl (Nat.le_of_ble_eq_true rfl) rfl (fun ls hl => ?_)
  exact B4 29 _ _ ls ay0 (nI 0) (nI 0) σ hI (lv_sub hl [2, 1, 0] rfl) h

def zf_Agreement_voteCommit_55 (k4 : Nat → Int32 → Int32 → za_h → Option (Int32 × za_h)) (a0 : Nat) (x1 : Int32) (x2 : Int32) (σ : za_h) : Option (Int32 × za_h) :=
  k4 a0 x1 (x2 + nI 1) σ

def zf_Agreement_voteCommit_4 : Nat → Nat → Int32 → Int32 → za_h → Option (Int32 × za_h)
  | 0, _, _, _, _ => none
  | n + 1, a0, x1, x2, σ =>
  if (nI 28) ≤ x2 then
  (if x1 = 0 ∨ x1 = 1 then some (x1, σ) else none)
  else
  ((zg_r σ a0 1 4).bind fun b4 =>
  (zg_i σ b4 7 3).bind fun v6 =>
  (zf_TL_has v6 x2 σ).bind fun (r7, σ8) =>
  if r7 = 0 then
  (zf_Agreement_voteCommit_55 (zf_Agreement_voteCommit_4 n) a0 x1 x2 σ8)
  else
  ((zg_r σ8 a0 1 4).bind fun b12 =>
  (zg_r σ8 b12 7 4).bind fun b14 =>
  (zg_i σ8 a0 1 0).bind fun v16 =>
  (za_ld σ8 b14 0 v16).bind fun v17 =>
  (zf_TL_abortersOf x2 σ8).bind fun (r19, σ20) =>
  if (v17 &&& r19) = 0 then
  ((zg_r σ20 a0 1 5).bind fun b24 =>
  (zg_c σ20 b24 7).bind fun _ =>
  (zf_Statements_vote b24 x2 σ20).bind fun (r26, σ27) =>
  zf_Agreement_voteCommit_55 (zf_Agreement_voteCommit_4 n) a0 (x1 ||| r26) x2 σ27)
  else
  (zf_Agreement_voteCommit_55 (zf_Agreement_voteCommit_4 n) a0 x1 x2 σ20)))

def zf_Agreement_voteCommit (ay0 : Nat) (σ : za_h) : Option (Int32 × za_h) :=
  zf_Agreement_voteCommit_4 29 ay0 (nI 0) (nI 0) σ
set_option maxRecDepth 100000 in
set_option maxHeartbeats 4000000 in
theorem zm_Agreement_voteCommit {l : Launch} {D : va_G} {ca : Nat → ClassId} {n0 : Nat} {ay0 : Nat} {σ σ' : za_h} {r : Int32} (h : zf_Agreement_voteCommit ay0 σ = some (r, σ')) : Met l zy_Agreement_voteCommit (za_wy zy_Agreement_voteCommit zc_Agreement_voteCommit 3 (some .boolean)) { frames := 2, cells := 0, slots := 0, locals := 42 } (za_Pc D ca n0 [.ref ay0] σ) (za_Qi D ca n0 r σ') 0 0 (za_A n0) := by
  refine za_met (by decide) (Nat.le_of_ble_eq_true rfl) ?_
  intro p e s m below meth c ls hx hb hml hr hlk hts hown hnm hK hI hl
  replace hown : s.vm.findClass zR_Agreement = some m.cls := hown
  replace hl : lv_has ls 3 [(0, .ref ay0)] := hl
  have B55 : ∀ (k4 : Nat → Int32 → Int32 → za_h → Option (Int32 × za_h)), (∀ (H : Heap) (locs : List Loc) (ls : Array Slot) (a0 : Nat) (x1 : Int32) (x2 : Int32) (σ : za_h), za_I D ca n0 s σ H locs → lv_has ls 3 [(0, .ref a0), (1, .int x1), (2, .int x2)] → k4 a0 x1 x2 σ = some (r, σ') → W p l e ({ frames := 2, cells := 0, slots := 0, locals := 42 }) s m ([.ref ay0] : List Value).toArray below meth c H locs 0 0 (MQ below (za_Qi D ca n0 r σ') ([.ref ay0] : List Value).toArray s 0 0 (za_A n0)) (F0 m 4 ls [])) → ∀ (H : Heap) (locs : List Loc) (ls : Array Slot) (a0 : Nat) (x1 : Int32) (x2 : Int32) (σ : za_h), za_I D ca n0 s σ H locs → lv_has ls 3 [(0, .ref a0), (1, .int x1), (2, .int x2)] → zf_Agreement_voteCommit_55 k4 a0 x1 x2 σ = some (r, σ') → W p l e ({ frames := 2, cells := 0, slots := 0, locals := 42 }) s m ([.ref ay0] : List Value).toArray below meth c H locs 0 0 (MQ below (za_Qi D ca n0 r σ') ([.ref ay0] : List Value).toArray s 0 0 (za_A n0)) (F0 m 55 ls []) := by
    intro k4 hk4 H locs ls a0 x1 x2 σ hI hl h
    unfold zf_Agreement_voteCommit_55 at h
    refine lv_iinc (k := 2) (v := (x2 + nI 1)) (lv' := [(2, .int (x2 + nI 1)), (0, .ref a0), (1, .int x1)]) hx hb zd_Agreement_voteCommit_55 hl rfl rfl (Nat.le_of_ble_eq_true rfl) rfl (fun ls hl => ?_)
    refine lv_goto hx hb (tgt := 4) zd_Agreement_voteCommit_58 (by decide) ?_
    exact hk4 _ _ ls a0 x1 (x2 + nI 1) σ hI (lv_sub hl [1, 2, 0] rfl) h
  have B4 : ∀ n : Nat, ∀ (H : Heap) (locs : List Loc) (ls : Array Slot) (a0 : Nat) (x1 : Int32) (x2 : Int32) (σ : za_h), za_I D ca n0 s σ H locs → lv_has ls 3 [(0, .ref a0), (1, .int x1), (2, .int x2)] → zf_Agreement_voteCommit_4 n a0 x1 x2 σ = some (r, σ') → W p l e ({ frames := 2, cells := 0, slots := 0, locals := 42 }) s m ([.ref ay0] : List Value).toArray below meth c H locs 0 0 (MQ below (za_Qi D ca n0 r σ') ([.ref ay0] : List Value).toArray s 0 0 (za_A n0)) (F0 m 4 ls []) := by
    intro n
    induction n with
    | zero => intro H locs ls a0 x1 x2 σ hI hl h; rw [zf_Agreement_voteCommit_4] at h; cases h
    | succ n ih =>
      intro H locs ls a0 x1 x2 σ hI hl h
      rw [zf_Agreement_voteCommit_4] at h
      refine lv_iload_n hx hb zd_Agreement_voteCommit_4 rfl (lv_at hl 2 rfl) ?_
      refine lv_bipush (v := nI 28) hx hb zd_Agreement_voteCommit_5 (by decide) ?_
      refine lv_icmp_ge hx hb (tgt := 61) zd_Agreement_voteCommit_7 (by decide) (fun c1 => ?_) (fun c1 => ?_)
      · replace h := zb_t c1 h
        refine lv_iload_n hx hb zd_Agreement_voteCommit_61 rfl (lv_at hl 1 rfl) ?_
        obtain ⟨g2, h⟩ := zb_g h
        exact za_zret hx hb hr hlk hI g2 h (Nat.le_of_ble_eq_true rfl) (Nat.le_of_ble_eq_true rfl) zd_Agreement_voteCommit_62
      · replace h := zb_f c1 h
        refine lv_aload_n hx hb zd_Agreement_voteCommit_10 rfl (lv_at hl 0 rfl) ?_
        obtain ⟨b4, e3, h⟩ := zb_o h
        refine za_getr hx hb hts hown hK hI zl_Agreement_37 e3 zd_Agreement_voteCommit_11 ?_
        obtain ⟨v6, e5, h⟩ := zb_o h
        refine za_geti hx hb hts hown hK hI zl_Agreement_131 e5 zd_Agreement_voteCommit_14 ?_
        refine lv_iload_n hx hb zd_Agreement_voteCommit_17 rfl (lv_at hl 2 rfl) ?_
        obtain ⟨⟨r7, σ8⟩, e9, h⟩ := zb_o h
        refine za_calli (za_runS hx hb hml hown hts hK hI (zm_TL_has e9) zj_Agreement_116 ⟨rfl, rfl⟩ ⟨Nat.le_of_ble_eq_true rfl, Nat.le_of_ble_eq_true rfl⟩ rfl hl.1 rfl (Nat.le_of_ble_eq_true rfl) zd_Agreement_voteCommit_18 ⟨Nat.le_of_ble_eq_true rfl, Nat.le_of_ble_eq_true rfl⟩) hI (fun H locs hI => ?_)
        refine lv_if_eq hx hb (tgt := 55) zd_Agreement_voteCommit_21 (by decide) (fun c10 => ?_) (fun c10 => ?_)
        · replace h := zb_t c10 h
          exact B55 _ ih _ _ ls a0 x1 x2 σ8 hI (lv_sub hl [0, 1, 2] rfl) h
        · replace h := zb_f c10 h
          refine lv_aload_n hx hb zd_Agreement_voteCommit_24 rfl (lv_at hl 0 rfl) ?_
          obtain ⟨b12, e11, h⟩ := zb_o h
          refine za_getr hx hb hts hown hK hI zl_Agreement_37 e11 zd_Agreement_voteCommit_25 ?_
          obtain ⟨b14, e13, h⟩ := zb_o h
          refine za_getr hx hb hts hown hK hI zl_Agreement_69 e13 zd_Agreement_voteCommit_28 ?_
          refine lv_aload_n hx hb zd_Agreement_voteCommit_31 rfl (lv_at hl 0 rfl) ?_
          obtain ⟨v16, e15, h⟩ := zb_o h
          refine za_geti hx hb hts hown hK hI zl_Agreement_9 e15 zd_Agreement_voteCommit_32 ?_
          obtain ⟨v17, e18, h⟩ := zb_o h
          refine za_iald hx hb hK hI e18 zd_Agreement_voteCommit_35 ?_
          refine lv_iload_n hx hb zd_Agreement_voteCommit_36 rfl (lv_at hl 2 rfl) ?_
          obtain ⟨⟨r19, σ20⟩, e21, h⟩ := zb_o h
          refine za_calli (za_runS hx hb hml hown hts hK hI (zm_TL_abortersOf e21) zj_Agreement_151 ⟨rfl, rfl⟩ ⟨Nat.le_of_ble_eq_true rfl, Nat.le_of_ble_eq_true rfl⟩ rfl hl.1 rfl (Nat.le_of_ble_eq_true rfl) zd_Agreement_voteCommit_37 ⟨Nat.le_of_ble_eq_true rfl, Nat.le_of_ble_eq_true rfl⟩) hI (fun H locs hI => ?_)
          refine lv_iand hx hb zd_Agreement_voteCommit_40 ?_
          refine lv_if_ne hx hb (tgt := 55) zd_Agreement_voteCommit_41 (by decide) (fun c22 => ?_) (fun c22 => ?_)
          · replace h := zb_f c22 h
            exact B55 _ ih _ _ ls a0 x1 x2 σ20 hI (lv_sub hl [0, 1, 2] rfl) h
          · replace h := zb_t c22 h
            refine lv_iload_n hx hb zd_Agreement_voteCommit_44 rfl (lv_at hl 1 rfl) ?_
            refine lv_aload_n hx hb zd_Agreement_voteCommit_45 rfl (lv_at hl 0 rfl) ?_
            obtain ⟨b24, e23, h⟩ := zb_o h
            refine za_getr hx hb hts hown hK hI zl_Agreement_40 e23 zd_Agreement_voteCommit_46 ?_
            refine lv_iload_n hx hb zd_Agreement_voteCommit_49 rfl (lv_at hl 2 rfl) ?_
            obtain ⟨_, g25, h⟩ := zb_o h
            obtain ⟨⟨r26, σ27⟩, e28, h⟩ := zb_o h
            refine za_calli (za_runV hx hb hml hown hts hK hI g25 (zm_Statements_vote e28) zj_Agreement_127 ⟨rfl, rfl⟩ ⟨Nat.le_of_ble_eq_true rfl, Nat.le_of_ble_eq_true rfl⟩ rfl hl.1 rfl (Nat.le_of_ble_eq_true rfl) zd_Agreement_voteCommit_50 ⟨Nat.le_of_ble_eq_true rfl, Nat.le_of_ble_eq_true rfl⟩) hI (fun H locs hI => ?_)
            refine lv_ior hx hb zd_Agreement_voteCommit_53 ?_
            refine lv_istore_n (lv' := [(1, .int (x1 ||| r26)), (0, .ref a0), (2, .int x2)]) hx hb zd_Agreement_voteCommit_54 rfl hl (Nat.le_of_ble_eq_true rfl) rfl (fun ls hl => ?_)
            exact B55 _ ih _ _ ls a0 (x1 ||| r26) x2 σ27 hI (lv_sub hl [1, 0, 2] rfl) h
  unfold zf_Agreement_voteCommit at h
  refine lv_iconst (v := nI 0) hx hb zd_Agreement_voteCommit_0 (by decide) ?_
  refine lv_istore_n (lv' := [(1, .int (nI 0)), (0, .ref ay0)]) hx hb zd_Agreement_voteCommit_1 rfl hl (Nat.le_of_ble_eq_true rfl) rfl (fun ls hl => ?_)
  refine lv_iconst (v := nI 0) hx hb zd_Agreement_voteCommit_2 (by decide) ?_
  refine lv_istore_n (lv' := [(2, .int (nI 0)), (1, .int (nI 0)), (0, .ref ay0)]) hx hb zd_Agreement_voteCommit_3 rfl hl (Nat.le_of_ble_eq_true rfl) rfl (fun ls hl => ?_)
  exact B4 29 _ _ ls ay0 (nI 0) (nI 0) σ hI (lv_sub hl [2, 1, 0] rfl) h

def zf_Agreement_settleCommit_73 (x1 : Int32) (σ : za_h) : Option (Int32 × za_h) :=
  if x1 = 0 ∨ x1 = 1 then some (x1, σ) else none

def zf_Agreement_settleCommit_67 (k4 : Nat → Int32 → Int32 → za_h → Option (Int32 × za_h)) (a0 : Nat) (x1 : Int32) (x2 : Int32) (σ : za_h) : Option (Int32 × za_h) :=
  k4 a0 x1 (x2 + nI 1) σ

def zf_Agreement_settleCommit_48 (k4 : Nat → Int32 → Int32 → za_h → Option (Int32 × za_h)) (a0 : Nat) (x1 : Int32) (x2 : Int32) (σ : za_h) : Option (Int32 × za_h) :=
  (zg_r σ a0 1 5).bind fun b2 =>
  (zg_c σ b2 7).bind fun _ =>
  (zf_Statements_confirmIfMay b2 x2 σ).bind fun (r4, σ5) =>
  if r4 = 0 then
  (zf_Agreement_settleCommit_67 k4 a0 x1 x2 σ5)
  else
  ((zf_TL_valueOf x2 σ5).bind fun (r8, σ9) =>
  (zp_f σ9 a0 1 10 (.int r8)).bind fun σ12 =>
  zf_Agreement_settleCommit_67 k4 a0 x1 x2 σ12)

def zf_Agreement_settleCommit_4 : Nat → Nat → Int32 → Int32 → za_h → Option (Int32 × za_h)
  | 0, _, _, _, _ => none
  | n + 1, a0, x1, x2, σ =>
  if (nI 28) ≤ x2 then
  (zf_Agreement_settleCommit_73 x1 σ)
  else
  ((zg_i σ a0 1 10).bind fun v3 =>
  if v3 = 0 then
  ((zg_r σ a0 1 4).bind fun b6 =>
  (zg_r σ b6 7 5).bind fun b8 =>
  (zg_i σ a0 1 0).bind fun v10 =>
  (za_ld σ b8 0 v10).bind fun v11 =>
  (zf_TL_abortersOf x2 σ).bind fun (r13, σ14) =>
  if (v11 &&& r13) = 0 then
  ((zg_r σ14 a0 1 5).bind fun b18 =>
  (zg_c σ14 b18 7).bind fun _ =>
  (zf_Statements_acceptIfMay b18 x2 σ14).bind fun (r20, σ21) =>
  zf_Agreement_settleCommit_48 (zf_Agreement_settleCommit_4 n) a0 (x1 ||| r20) x2 σ21)
  else
  (zf_Agreement_settleCommit_48 (zf_Agreement_settleCommit_4 n) a0 x1 x2 σ14))
  else
  (zf_Agreement_settleCommit_73 x1 σ))

def zf_Agreement_settleCommit (ay0 : Nat) (σ : za_h) : Option (Int32 × za_h) :=
  zf_Agreement_settleCommit_4 29 ay0 (nI 0) (nI 0) σ
set_option maxRecDepth 100000 in
set_option maxHeartbeats 4000000 in
theorem zm_Agreement_settleCommit {l : Launch} {D : va_G} {ca : Nat → ClassId} {n0 : Nat} {ay0 : Nat} {σ σ' : za_h} {r : Int32} (h : zf_Agreement_settleCommit ay0 σ = some (r, σ')) : Met l zy_Agreement_settleCommit (za_wy zy_Agreement_settleCommit zc_Agreement_settleCommit 3 (some .boolean)) { frames := 4, cells := 0, slots := 0, locals := 90 } (za_Pc D ca n0 [.ref ay0] σ) (za_Qi D ca n0 r σ') 0 0 (za_A n0) := by
  refine za_met (by decide) (Nat.le_of_ble_eq_true rfl) ?_
  intro p e s m below meth c ls hx hb hml hr hlk hts hown hnm hK hI hl
  replace hown : s.vm.findClass zR_Agreement = some m.cls := hown
  replace hl : lv_has ls 3 [(0, .ref ay0)] := hl
  have B73 : ∀ (H : Heap) (locs : List Loc) (ls : Array Slot) (x1 : Int32) (σ : za_h), za_I D ca n0 s σ H locs → lv_has ls 3 [(1, .int x1)] → zf_Agreement_settleCommit_73 x1 σ = some (r, σ') → W p l e ({ frames := 4, cells := 0, slots := 0, locals := 90 }) s m ([.ref ay0] : List Value).toArray below meth c H locs 0 0 (MQ below (za_Qi D ca n0 r σ') ([.ref ay0] : List Value).toArray s 0 0 (za_A n0)) (F0 m 73 ls []) := by
    intro H locs ls x1 σ hI hl h
    unfold zf_Agreement_settleCommit_73 at h
    refine lv_iload_n hx hb zd_Agreement_settleCommit_73 rfl (lv_at hl 0 rfl) ?_
    obtain ⟨g1, h⟩ := zb_g h
    exact za_zret hx hb hr hlk hI g1 h (Nat.le_of_ble_eq_true rfl) (Nat.le_of_ble_eq_true rfl) zd_Agreement_settleCommit_74
  have B67 : ∀ (k4 : Nat → Int32 → Int32 → za_h → Option (Int32 × za_h)), (∀ (H : Heap) (locs : List Loc) (ls : Array Slot) (a0 : Nat) (x1 : Int32) (x2 : Int32) (σ : za_h), za_I D ca n0 s σ H locs → lv_has ls 3 [(0, .ref a0), (1, .int x1), (2, .int x2)] → k4 a0 x1 x2 σ = some (r, σ') → W p l e ({ frames := 4, cells := 0, slots := 0, locals := 90 }) s m ([.ref ay0] : List Value).toArray below meth c H locs 0 0 (MQ below (za_Qi D ca n0 r σ') ([.ref ay0] : List Value).toArray s 0 0 (za_A n0)) (F0 m 4 ls [])) → ∀ (H : Heap) (locs : List Loc) (ls : Array Slot) (a0 : Nat) (x1 : Int32) (x2 : Int32) (σ : za_h), za_I D ca n0 s σ H locs → lv_has ls 3 [(0, .ref a0), (1, .int x1), (2, .int x2)] → zf_Agreement_settleCommit_67 k4 a0 x1 x2 σ = some (r, σ') → W p l e ({ frames := 4, cells := 0, slots := 0, locals := 90 }) s m ([.ref ay0] : List Value).toArray below meth c H locs 0 0 (MQ below (za_Qi D ca n0 r σ') ([.ref ay0] : List Value).toArray s 0 0 (za_A n0)) (F0 m 67 ls []) := by
    intro k4 hk4 H locs ls a0 x1 x2 σ hI hl h
    unfold zf_Agreement_settleCommit_67 at h
    refine lv_iinc (k := 2) (v := (x2 + nI 1)) (lv' := [(2, .int (x2 + nI 1)), (0, .ref a0), (1, .int x1)]) hx hb zd_Agreement_settleCommit_67 hl rfl rfl (Nat.le_of_ble_eq_true rfl) rfl (fun ls hl => ?_)
    refine lv_goto hx hb (tgt := 4) zd_Agreement_settleCommit_70 (by decide) ?_
    exact hk4 _ _ ls a0 x1 (x2 + nI 1) σ hI (lv_sub hl [1, 2, 0] rfl) h
  have B48 : ∀ (k4 : Nat → Int32 → Int32 → za_h → Option (Int32 × za_h)), (∀ (H : Heap) (locs : List Loc) (ls : Array Slot) (a0 : Nat) (x1 : Int32) (x2 : Int32) (σ : za_h), za_I D ca n0 s σ H locs → lv_has ls 3 [(0, .ref a0), (1, .int x1), (2, .int x2)] → k4 a0 x1 x2 σ = some (r, σ') → W p l e ({ frames := 4, cells := 0, slots := 0, locals := 90 }) s m ([.ref ay0] : List Value).toArray below meth c H locs 0 0 (MQ below (za_Qi D ca n0 r σ') ([.ref ay0] : List Value).toArray s 0 0 (za_A n0)) (F0 m 4 ls [])) → ∀ (H : Heap) (locs : List Loc) (ls : Array Slot) (a0 : Nat) (x1 : Int32) (x2 : Int32) (σ : za_h), za_I D ca n0 s σ H locs → lv_has ls 3 [(0, .ref a0), (1, .int x1), (2, .int x2)] → zf_Agreement_settleCommit_48 k4 a0 x1 x2 σ = some (r, σ') → W p l e ({ frames := 4, cells := 0, slots := 0, locals := 90 }) s m ([.ref ay0] : List Value).toArray below meth c H locs 0 0 (MQ below (za_Qi D ca n0 r σ') ([.ref ay0] : List Value).toArray s 0 0 (za_A n0)) (F0 m 48 ls []) := by
    intro k4 hk4 H locs ls a0 x1 x2 σ hI hl h
    unfold zf_Agreement_settleCommit_48 at h
    refine lv_aload_n hx hb zd_Agreement_settleCommit_48 rfl (lv_at hl 0 rfl) ?_
    obtain ⟨b2, e1, h⟩ := zb_o h
    refine za_getr hx hb hts hown hK hI zl_Agreement_40 e1 zd_Agreement_settleCommit_49 ?_
    refine lv_iload_n hx hb zd_Agreement_settleCommit_52 rfl (lv_at hl 2 rfl) ?_
    obtain ⟨_, g3, h⟩ := zb_o h
    obtain ⟨⟨r4, σ5⟩, e6, h⟩ := zb_o h
    refine za_calli (za_runV hx hb hml hown hts hK hI g3 (zm_Statements_confirmIfMay e6) zj_Agreement_145 ⟨rfl, rfl⟩ ⟨Nat.le_of_ble_eq_true rfl, Nat.le_of_ble_eq_true rfl⟩ rfl hl.1 rfl (Nat.le_of_ble_eq_true rfl) zd_Agreement_settleCommit_53 ⟨Nat.le_of_ble_eq_true rfl, Nat.le_of_ble_eq_true rfl⟩) hI (fun H locs hI => ?_)
    refine lv_if_eq hx hb (tgt := 67) zd_Agreement_settleCommit_56 (by decide) (fun c7 => ?_) (fun c7 => ?_)
    · replace h := zb_t c7 h
      exact B67 _ hk4 _ _ ls a0 x1 x2 σ5 hI (lv_sub hl [0, 1, 2] rfl) h
    · replace h := zb_f c7 h
      refine lv_aload_n hx hb zd_Agreement_settleCommit_59 rfl (lv_at hl 0 rfl) ?_
      refine lv_iload_n hx hb zd_Agreement_settleCommit_60 rfl (lv_at hl 2 rfl) ?_
      obtain ⟨⟨r8, σ9⟩, e10, h⟩ := zb_o h
      refine za_calli (za_runS hx hb hml hown hts hK hI (zm_TL_valueOf e10) zj_Agreement_134 ⟨rfl, rfl⟩ ⟨Nat.le_of_ble_eq_true rfl, Nat.le_of_ble_eq_true rfl⟩ rfl hl.1 rfl (Nat.le_of_ble_eq_true rfl) zd_Agreement_settleCommit_61 ⟨Nat.le_of_ble_eq_true rfl, Nat.le_of_ble_eq_true rfl⟩) hI (fun H locs hI => ?_)
      obtain ⟨σ12, e11, h⟩ := zb_o h
      refine za_put hx hb hts hown hK hI zl_Agreement_83 e11 rfl rfl zd_Agreement_settleCommit_64 (fun H locs hI => ?_)
      exact B67 _ hk4 _ _ ls a0 x1 x2 σ12 hI (lv_sub hl [0, 1, 2] rfl) h
  have B4 : ∀ n : Nat, ∀ (H : Heap) (locs : List Loc) (ls : Array Slot) (a0 : Nat) (x1 : Int32) (x2 : Int32) (σ : za_h), za_I D ca n0 s σ H locs → lv_has ls 3 [(0, .ref a0), (1, .int x1), (2, .int x2)] → zf_Agreement_settleCommit_4 n a0 x1 x2 σ = some (r, σ') → W p l e ({ frames := 4, cells := 0, slots := 0, locals := 90 }) s m ([.ref ay0] : List Value).toArray below meth c H locs 0 0 (MQ below (za_Qi D ca n0 r σ') ([.ref ay0] : List Value).toArray s 0 0 (za_A n0)) (F0 m 4 ls []) := by
    intro n
    induction n with
    | zero => intro H locs ls a0 x1 x2 σ hI hl h; rw [zf_Agreement_settleCommit_4] at h; cases h
    | succ n ih =>
      intro H locs ls a0 x1 x2 σ hI hl h
      rw [zf_Agreement_settleCommit_4] at h
      refine lv_iload_n hx hb zd_Agreement_settleCommit_4 rfl (lv_at hl 2 rfl) ?_
      refine lv_bipush (v := nI 28) hx hb zd_Agreement_settleCommit_5 (by decide) ?_
      refine lv_icmp_ge hx hb (tgt := 73) zd_Agreement_settleCommit_7 (by decide) (fun c1 => ?_) (fun c1 => ?_)
      · replace h := zb_t c1 h
        exact B73 _ _ ls x1 σ hI (lv_sub hl [1] rfl) h
      · replace h := zb_f c1 h
        refine lv_aload_n hx hb zd_Agreement_settleCommit_10 rfl (lv_at hl 0 rfl) ?_
        obtain ⟨v3, e2, h⟩ := zb_o h
        refine za_geti hx hb hts hown hK hI zl_Agreement_83 e2 zd_Agreement_settleCommit_11 ?_
        refine lv_if_ne hx hb (tgt := 73) zd_Agreement_settleCommit_14 (by decide) (fun c4 => ?_) (fun c4 => ?_)
        · replace h := zb_f c4 h
          exact B73 _ _ ls x1 σ hI (lv_sub hl [1] rfl) h
        · replace h := zb_t c4 h
          refine lv_aload_n hx hb zd_Agreement_settleCommit_17 rfl (lv_at hl 0 rfl) ?_
          obtain ⟨b6, e5, h⟩ := zb_o h
          refine za_getr hx hb hts hown hK hI zl_Agreement_37 e5 zd_Agreement_settleCommit_18 ?_
          obtain ⟨b8, e7, h⟩ := zb_o h
          refine za_getr hx hb hts hown hK hI zl_Agreement_79 e7 zd_Agreement_settleCommit_21 ?_
          refine lv_aload_n hx hb zd_Agreement_settleCommit_24 rfl (lv_at hl 0 rfl) ?_
          obtain ⟨v10, e9, h⟩ := zb_o h
          refine za_geti hx hb hts hown hK hI zl_Agreement_9 e9 zd_Agreement_settleCommit_25 ?_
          obtain ⟨v11, e12, h⟩ := zb_o h
          refine za_iald hx hb hK hI e12 zd_Agreement_settleCommit_28 ?_
          refine lv_iload_n hx hb zd_Agreement_settleCommit_29 rfl (lv_at hl 2 rfl) ?_
          obtain ⟨⟨r13, σ14⟩, e15, h⟩ := zb_o h
          refine za_calli (za_runS hx hb hml hown hts hK hI (zm_TL_abortersOf e15) zj_Agreement_151 ⟨rfl, rfl⟩ ⟨Nat.le_of_ble_eq_true rfl, Nat.le_of_ble_eq_true rfl⟩ rfl hl.1 rfl (Nat.le_of_ble_eq_true rfl) zd_Agreement_settleCommit_30 ⟨Nat.le_of_ble_eq_true rfl, Nat.le_of_ble_eq_true rfl⟩) hI (fun H locs hI => ?_)
          refine lv_iand hx hb zd_Agreement_settleCommit_33 ?_
          refine lv_if_ne hx hb (tgt := 48) zd_Agreement_settleCommit_34 (by decide) (fun c16 => ?_) (fun c16 => ?_)
          · replace h := zb_f c16 h
            exact B48 _ ih _ _ ls a0 x1 x2 σ14 hI (lv_sub hl [0, 1, 2] rfl) h
          · replace h := zb_t c16 h
            refine lv_iload_n hx hb zd_Agreement_settleCommit_37 rfl (lv_at hl 1 rfl) ?_
            refine lv_aload_n hx hb zd_Agreement_settleCommit_38 rfl (lv_at hl 0 rfl) ?_
            obtain ⟨b18, e17, h⟩ := zb_o h
            refine za_getr hx hb hts hown hK hI zl_Agreement_40 e17 zd_Agreement_settleCommit_39 ?_
            refine lv_iload_n hx hb zd_Agreement_settleCommit_42 rfl (lv_at hl 2 rfl) ?_
            obtain ⟨_, g19, h⟩ := zb_o h
            obtain ⟨⟨r20, σ21⟩, e22, h⟩ := zb_o h
            refine za_calli (za_runV hx hb hml hown hts hK hI g19 (zm_Statements_acceptIfMay e22) zj_Agreement_142 ⟨rfl, rfl⟩ ⟨Nat.le_of_ble_eq_true rfl, Nat.le_of_ble_eq_true rfl⟩ rfl hl.1 rfl (Nat.le_of_ble_eq_true rfl) zd_Agreement_settleCommit_43 ⟨Nat.le_of_ble_eq_true rfl, Nat.le_of_ble_eq_true rfl⟩) hI (fun H locs hI => ?_)
            refine lv_ior hx hb zd_Agreement_settleCommit_46 ?_
            refine lv_istore_n (lv' := [(1, .int (x1 ||| r20)), (0, .ref a0), (2, .int x2)]) hx hb zd_Agreement_settleCommit_47 rfl hl (Nat.le_of_ble_eq_true rfl) rfl (fun ls hl => ?_)
            exact B48 _ ih _ _ ls a0 (x1 ||| r20) x2 σ21 hI (lv_sub hl [1, 0, 2] rfl) h
  unfold zf_Agreement_settleCommit at h
  refine lv_iconst (v := nI 0) hx hb zd_Agreement_settleCommit_0 (by decide) ?_
  refine lv_istore_n (lv' := [(1, .int (nI 0)), (0, .ref ay0)]) hx hb zd_Agreement_settleCommit_1 rfl hl (Nat.le_of_ble_eq_true rfl) rfl (fun ls hl => ?_)
  refine lv_iconst (v := nI 0) hx hb zd_Agreement_settleCommit_2 (by decide) ?_
  refine lv_istore_n (lv' := [(2, .int (nI 0)), (1, .int (nI 0)), (0, .ref ay0)]) hx hb zd_Agreement_settleCommit_3 rfl hl (Nat.le_of_ble_eq_true rfl) rfl (fun ls hl => ?_)
  exact B4 29 _ _ ls ay0 (nI 0) (nI 0) σ hI (lv_sub hl [2, 1, 0] rfl) h

def zf_Agreement_stir_68  (σ : za_h) : Option (Unit × za_h) :=
  some ((), σ)

def zf_Agreement_stir_4 : Nat → Nat → Int32 → Int32 → za_h → Option (Unit × za_h)
  | 0, _, _, _, _ => none
  | n + 1, a0, x1, x2, σ =>
  if (nI 200) ≤ x2 then
  (zf_Agreement_stir_68 σ)
  else
  (if x1 = 0 then
  (zf_Agreement_stir_68 σ)
  else
  ((zg_i σ a0 1 10).bind fun v4 =>
  if v4 = 0 then
  ((zg_c σ a0 1).bind fun _ =>
  (zf_Agreement_voteNominate a0 σ).bind fun (r7, σ8) =>
  (zg_c σ8 a0 1).bind fun _ =>
  (zf_Agreement_acceptNominate a0 σ8).bind fun (r11, σ12) =>
  (zg_c σ12 a0 1).bind fun _ =>
  (zf_Agreement_confirmNominate a0 σ12).bind fun (r15, σ16) =>
  (zg_c σ16 a0 1).bind fun _ =>
  (zf_Agreement_beginPrepare a0 σ16).bind fun (r19, σ20) =>
  (zg_c σ20 a0 1).bind fun _ =>
  (zf_Agreement_acceptPrepare a0 σ20).bind fun (r23, σ24) =>
  (zg_c σ24 a0 1).bind fun _ =>
  (zf_Agreement_confirmPrepare a0 σ24).bind fun (r27, σ28) =>
  (zg_c σ28 a0 1).bind fun _ =>
  (zf_Agreement_voteCommit a0 σ28).bind fun (r31, σ32) =>
  (zg_c σ32 a0 1).bind fun _ =>
  (zf_Agreement_settleCommit a0 σ32).bind fun (r35, σ36) =>
  zf_Agreement_stir_4 n a0 (((((((r7 ||| r11) ||| r15) ||| r19) ||| r23) ||| r27) ||| r31) ||| r35) (x2 + nI 1) σ36)
  else
  (zf_Agreement_stir_68 σ)))

def zf_Agreement_stir (ay0 : Nat) (σ : za_h) : Option (Unit × za_h) :=
  zf_Agreement_stir_4 201 ay0 (nI 1) (nI 0) σ
set_option maxRecDepth 100000 in
set_option maxHeartbeats 4000000 in
theorem zm_Agreement_stir {l : Launch} {D : va_G} {ca : Nat → ClassId} {n0 : Nat} {ay0 : Nat} {σ σ' : za_h} {r : Unit} (h : zf_Agreement_stir ay0 σ = some (r, σ')) : Met l zy_Agreement_stir (za_wy zy_Agreement_stir zc_Agreement_stir 3 none) { frames := 5, cells := 0, slots := 0, locals := 112 } (za_Pc D ca n0 [.ref ay0] σ) (za_Qv D ca n0 r σ') 0 0 (za_A n0) := by
  refine za_met (by decide) (Nat.le_of_ble_eq_true rfl) ?_
  intro p e s m below meth c ls hx hb hml hr hlk hts hown hnm hK hI hl
  replace hown : s.vm.findClass zR_Agreement = some m.cls := hown
  replace hl : lv_has ls 3 [(0, .ref ay0)] := hl
  have B68 : ∀ (H : Heap) (locs : List Loc) (ls : Array Slot) (σ : za_h), za_I D ca n0 s σ H locs → lv_has ls 3 [] → zf_Agreement_stir_68 σ = some (r, σ') → W p l e ({ frames := 5, cells := 0, slots := 0, locals := 112 }) s m ([.ref ay0] : List Value).toArray below meth c H locs 0 0 (MQ below (za_Qv D ca n0 r σ') ([.ref ay0] : List Value).toArray s 0 0 (za_A n0)) (F0 m 68 ls []) := by
    intro H locs ls σ hI hl h
    unfold zf_Agreement_stir_68 at h
    exact za_vret hx hb hr hlk hI h (Nat.le_of_ble_eq_true rfl) (Nat.le_of_ble_eq_true rfl) zd_Agreement_stir_68
  have B4 : ∀ n : Nat, ∀ (H : Heap) (locs : List Loc) (ls : Array Slot) (a0 : Nat) (x1 : Int32) (x2 : Int32) (σ : za_h), za_I D ca n0 s σ H locs → lv_has ls 3 [(0, .ref a0), (1, .int x1), (2, .int x2)] → zf_Agreement_stir_4 n a0 x1 x2 σ = some (r, σ') → W p l e ({ frames := 5, cells := 0, slots := 0, locals := 112 }) s m ([.ref ay0] : List Value).toArray below meth c H locs 0 0 (MQ below (za_Qv D ca n0 r σ') ([.ref ay0] : List Value).toArray s 0 0 (za_A n0)) (F0 m 4 ls []) := by
    intro n
    induction n with
    | zero => intro H locs ls a0 x1 x2 σ hI hl h; rw [zf_Agreement_stir_4] at h; cases h
    | succ n ih =>
      intro H locs ls a0 x1 x2 σ hI hl h
      rw [zf_Agreement_stir_4] at h
      refine lv_iload_n hx hb zd_Agreement_stir_4 rfl (lv_at hl 2 rfl) ?_
      refine lv_sipush (v := nI 200) hx hb zd_Agreement_stir_5 (by decide) ?_
      refine lv_icmp_ge hx hb (tgt := 68) zd_Agreement_stir_8 (by decide) (fun c1 => ?_) (fun c1 => ?_)
      · replace h := zb_t c1 h
        exact B68 _ _ ls σ hI (lv_sub hl [] rfl) h
      · replace h := zb_f c1 h
        refine lv_iload_n hx hb zd_Agreement_stir_11 rfl (lv_at hl 1 rfl) ?_
        refine lv_if_eq hx hb (tgt := 68) zd_Agreement_stir_12 (by decide) (fun c2 => ?_) (fun c2 => ?_)
        · replace h := zb_t c2 h
          exact B68 _ _ ls σ hI (lv_sub hl [] rfl) h
        · replace h := zb_f c2 h
          refine lv_aload_n hx hb zd_Agreement_stir_15 rfl (lv_at hl 0 rfl) ?_
          obtain ⟨v4, e3, h⟩ := zb_o h
          refine za_geti hx hb hts hown hK hI zl_Agreement_83 e3 zd_Agreement_stir_16 ?_
          refine lv_if_ne hx hb (tgt := 68) zd_Agreement_stir_19 (by decide) (fun c5 => ?_) (fun c5 => ?_)
          · replace h := zb_f c5 h
            exact B68 _ _ ls σ hI (lv_sub hl [] rfl) h
          · replace h := zb_t c5 h
            refine lv_aload_n hx hb zd_Agreement_stir_22 rfl (lv_at hl 0 rfl) ?_
            obtain ⟨_, g6, h⟩ := zb_o h
            obtain ⟨⟨r7, σ8⟩, e9, h⟩ := zb_o h
            refine za_calli (za_runV hx hb hml hown hts hK hI g6 (zm_Agreement_voteNominate e9) zj_Agreement_86 ⟨rfl, rfl⟩ ⟨Nat.le_of_ble_eq_true rfl, Nat.le_of_ble_eq_true rfl⟩ rfl hl.1 rfl (Nat.le_of_ble_eq_true rfl) zd_Agreement_stir_23 ⟨Nat.le_of_ble_eq_true rfl, Nat.le_of_ble_eq_true rfl⟩) hI (fun H locs hI => ?_)
            refine lv_aload_n hx hb zd_Agreement_stir_26 rfl (lv_at hl 0 rfl) ?_
            obtain ⟨_, g10, h⟩ := zb_o h
            obtain ⟨⟨r11, σ12⟩, e13, h⟩ := zb_o h
            refine za_calli (za_runV hx hb hml hown hts hK hI g10 (zm_Agreement_acceptNominate e13) zj_Agreement_90 ⟨rfl, rfl⟩ ⟨Nat.le_of_ble_eq_true rfl, Nat.le_of_ble_eq_true rfl⟩ rfl hl.1 rfl (Nat.le_of_ble_eq_true rfl) zd_Agreement_stir_27 ⟨Nat.le_of_ble_eq_true rfl, Nat.le_of_ble_eq_true rfl⟩) hI (fun H locs hI => ?_)
            refine lv_ior hx hb zd_Agreement_stir_30 ?_
            refine lv_aload_n hx hb zd_Agreement_stir_31 rfl (lv_at hl 0 rfl) ?_
            obtain ⟨_, g14, h⟩ := zb_o h
            obtain ⟨⟨r15, σ16⟩, e17, h⟩ := zb_o h
            refine za_calli (za_runV hx hb hml hown hts hK hI g14 (zm_Agreement_confirmNominate e17) zj_Agreement_93 ⟨rfl, rfl⟩ ⟨Nat.le_of_ble_eq_true rfl, Nat.le_of_ble_eq_true rfl⟩ rfl hl.1 rfl (Nat.le_of_ble_eq_true rfl) zd_Agreement_stir_32 ⟨Nat.le_of_ble_eq_true rfl, Nat.le_of_ble_eq_true rfl⟩) hI (fun H locs hI => ?_)
            refine lv_ior hx hb zd_Agreement_stir_35 ?_
            refine lv_aload_n hx hb zd_Agreement_stir_36 rfl (lv_at hl 0 rfl) ?_
            obtain ⟨_, g18, h⟩ := zb_o h
            obtain ⟨⟨r19, σ20⟩, e21, h⟩ := zb_o h
            refine za_calli (za_runV hx hb hml hown hts hK hI g18 (zm_Agreement_beginPrepare e21) zj_Agreement_96 ⟨rfl, rfl⟩ ⟨Nat.le_of_ble_eq_true rfl, Nat.le_of_ble_eq_true rfl⟩ rfl hl.1 rfl (Nat.le_of_ble_eq_true rfl) zd_Agreement_stir_37 ⟨Nat.le_of_ble_eq_true rfl, Nat.le_of_ble_eq_true rfl⟩) hI (fun H locs hI => ?_)
            refine lv_ior hx hb zd_Agreement_stir_40 ?_
            refine lv_aload_n hx hb zd_Agreement_stir_41 rfl (lv_at hl 0 rfl) ?_
            obtain ⟨_, g22, h⟩ := zb_o h
            obtain ⟨⟨r23, σ24⟩, e25, h⟩ := zb_o h
            refine za_calli (za_runV hx hb hml hown hts hK hI g22 (zm_Agreement_acceptPrepare e25) zj_Agreement_99 ⟨rfl, rfl⟩ ⟨Nat.le_of_ble_eq_true rfl, Nat.le_of_ble_eq_true rfl⟩ rfl hl.1 rfl (Nat.le_of_ble_eq_true rfl) zd_Agreement_stir_42 ⟨Nat.le_of_ble_eq_true rfl, Nat.le_of_ble_eq_true rfl⟩) hI (fun H locs hI => ?_)
            refine lv_ior hx hb zd_Agreement_stir_45 ?_
            refine lv_aload_n hx hb zd_Agreement_stir_46 rfl (lv_at hl 0 rfl) ?_
            obtain ⟨_, g26, h⟩ := zb_o h
            obtain ⟨⟨r27, σ28⟩, e29, h⟩ := zb_o h
            refine za_calli (za_runV hx hb hml hown hts hK hI g26 (zm_Agreement_confirmPrepare e29) zj_Agreement_102 ⟨rfl, rfl⟩ ⟨Nat.le_of_ble_eq_true rfl, Nat.le_of_ble_eq_true rfl⟩ rfl hl.1 rfl (Nat.le_of_ble_eq_true rfl) zd_Agreement_stir_47 ⟨Nat.le_of_ble_eq_true rfl, Nat.le_of_ble_eq_true rfl⟩) hI (fun H locs hI => ?_)
            refine lv_ior hx hb zd_Agreement_stir_50 ?_
            refine lv_aload_n hx hb zd_Agreement_stir_51 rfl (lv_at hl 0 rfl) ?_
            obtain ⟨_, g30, h⟩ := zb_o h
            obtain ⟨⟨r31, σ32⟩, e33, h⟩ := zb_o h
            refine za_calli (za_runV hx hb hml hown hts hK hI g30 (zm_Agreement_voteCommit e33) zj_Agreement_105 ⟨rfl, rfl⟩ ⟨Nat.le_of_ble_eq_true rfl, Nat.le_of_ble_eq_true rfl⟩ rfl hl.1 rfl (Nat.le_of_ble_eq_true rfl) zd_Agreement_stir_52 ⟨Nat.le_of_ble_eq_true rfl, Nat.le_of_ble_eq_true rfl⟩) hI (fun H locs hI => ?_)
            refine lv_ior hx hb zd_Agreement_stir_55 ?_
            refine lv_aload_n hx hb zd_Agreement_stir_56 rfl (lv_at hl 0 rfl) ?_
            obtain ⟨_, g34, h⟩ := zb_o h
            obtain ⟨⟨r35, σ36⟩, e37, h⟩ := zb_o h
            refine za_calli (za_runV hx hb hml hown hts hK hI g34 (zm_Agreement_settleCommit e37) zj_Agreement_108 ⟨rfl, rfl⟩ ⟨Nat.le_of_ble_eq_true rfl, Nat.le_of_ble_eq_true rfl⟩ rfl hl.1 rfl (Nat.le_of_ble_eq_true rfl) zd_Agreement_stir_57 ⟨Nat.le_of_ble_eq_true rfl, Nat.le_of_ble_eq_true rfl⟩) hI (fun H locs hI => ?_)
            refine lv_ior hx hb zd_Agreement_stir_60 ?_
            refine lv_istore_n (lv' := [(1, .int (((((((r7 ||| r11) ||| r15) ||| r19) ||| r23) ||| r27) ||| r31) ||| r35)), (0, .ref a0), (2, .int x2)]) hx hb zd_Agreement_stir_61 rfl hl (Nat.le_of_ble_eq_true rfl) rfl (fun ls hl => ?_)
            refine lv_iinc (k := 2) (v := (x2 + nI 1)) (lv' := [(2, .int (x2 + nI 1)), (1, .int (((((((r7 ||| r11) ||| r15) ||| r19) ||| r23) ||| r27) ||| r31) ||| r35)), (0, .ref a0)]) hx hb zd_Agreement_stir_62 hl rfl rfl (Nat.le_of_ble_eq_true rfl) rfl (fun ls hl => ?_)
            refine lv_goto hx hb (tgt := 4) zd_Agreement_stir_65 (by decide) ?_
            exact ih _ _ ls a0 (((((((r7 ||| r11) ||| r15) ||| r19) ||| r23) ||| r27) ||| r31) ||| r35) (x2 + nI 1) σ36 hI (lv_sub hl [2, 1, 0] rfl) h
  unfold zf_Agreement_stir at h
  refine lv_iconst (v := nI 1) hx hb zd_Agreement_stir_0 (by decide) ?_
  refine lv_istore_n (lv' := [(1, .int (nI 1)), (0, .ref ay0)]) hx hb zd_Agreement_stir_1 rfl hl (Nat.le_of_ble_eq_true rfl) rfl (fun ls hl => ?_)
  refine lv_iconst (v := nI 0) hx hb zd_Agreement_stir_2 (by decide) ?_
  refine lv_istore_n (lv' := [(2, .int (nI 0)), (1, .int (nI 1)), (0, .ref ay0)]) hx hb zd_Agreement_stir_3 rfl hl (Nat.le_of_ble_eq_true rfl) rfl (fun ls hl => ?_)
  exact B4 201 _ _ ls ay0 (nI 1) (nI 0) σ hI (lv_sub hl [2, 1, 0] rfl) h

def zf_Agreement_runOutOfTime_26  (σ : za_h) : Option (Unit × za_h) :=
  some ((), σ)

def zf_Agreement_runOutOfTime (ay0 : Nat) (σ : za_h) : Option (Unit × za_h) :=
  (zg_c σ ay0 1).bind fun _ =>
  (zf_Agreement_composite ay0 σ).bind fun (r2, σ3) =>
  if r2 = 0 then
  ((zg_c σ3 ay0 1).bind fun _ =>
  (zf_Agreement_beginRound ay0 σ3).bind fun (_, σ15) =>
  zf_Agreement_runOutOfTime_26 σ15)
  else
  ((zg_i σ3 ay0 1 9).bind fun v7 =>
  if (nI 4) ≤ v7 then
  (zf_Agreement_runOutOfTime_26 σ3)
  else
  ((zg_c σ3 ay0 1).bind fun _ =>
  (zf_Agreement_raiseCounter ay0 σ3).bind fun (_, σ11) =>
  zf_Agreement_runOutOfTime_26 σ11))
set_option maxRecDepth 100000 in
set_option maxHeartbeats 4000000 in
theorem zm_Agreement_runOutOfTime {l : Launch} {D : va_G} {ca : Nat → ClassId} {n0 : Nat} {ay0 : Nat} {σ σ' : za_h} {r : Unit} (h : zf_Agreement_runOutOfTime ay0 σ = some (r, σ')) : Met l zy_Agreement_runOutOfTime (za_wy zy_Agreement_runOutOfTime zc_Agreement_runOutOfTime 1 none) { frames := 4, cells := 0, slots := 0, locals := 84 } (za_Pc D ca n0 [.ref ay0] σ) (za_Qv D ca n0 r σ') 0 0 (za_A n0) := by
  refine za_met (by decide) (Nat.le_of_ble_eq_true rfl) ?_
  intro p e s m below meth c ls hx hb hml hr hlk hts hown hnm hK hI hl
  replace hown : s.vm.findClass zR_Agreement = some m.cls := hown
  replace hl : lv_has ls 1 [(0, .ref ay0)] := hl
  have B26 : ∀ (H : Heap) (locs : List Loc) (ls : Array Slot) (σ : za_h), za_I D ca n0 s σ H locs → lv_has ls 1 [] → zf_Agreement_runOutOfTime_26 σ = some (r, σ') → W p l e ({ frames := 4, cells := 0, slots := 0, locals := 84 }) s m ([.ref ay0] : List Value).toArray below meth c H locs 0 0 (MQ below (za_Qv D ca n0 r σ') ([.ref ay0] : List Value).toArray s 0 0 (za_A n0)) (F0 m 26 ls []) := by
    intro H locs ls σ hI hl h
    unfold zf_Agreement_runOutOfTime_26 at h
    exact za_vret hx hb hr hlk hI h (Nat.le_of_ble_eq_true rfl) (Nat.le_of_ble_eq_true rfl) zd_Agreement_runOutOfTime_26
  unfold zf_Agreement_runOutOfTime at h
  refine lv_aload_n hx hb zd_Agreement_runOutOfTime_0 rfl (lv_at hl 0 rfl) ?_
  obtain ⟨_, g1, h⟩ := zb_o h
  obtain ⟨⟨r2, σ3⟩, e4, h⟩ := zb_o h
  refine za_calli (za_runV hx hb hml hown hts hK hI g1 (zm_Agreement_composite e4) zj_Agreement_52 ⟨rfl, rfl⟩ ⟨Nat.le_of_ble_eq_true rfl, Nat.le_of_ble_eq_true rfl⟩ rfl hl.1 rfl (Nat.le_of_ble_eq_true rfl) zd_Agreement_runOutOfTime_1 ⟨Nat.le_of_ble_eq_true rfl, Nat.le_of_ble_eq_true rfl⟩) hI (fun H locs hI => ?_)
  refine lv_if_ne hx hb (tgt := 14) zd_Agreement_runOutOfTime_4 (by decide) (fun c5 => ?_) (fun c5 => ?_)
  · replace h := zb_f c5 h
    refine lv_aload_n hx hb zd_Agreement_runOutOfTime_14 rfl (lv_at hl 0 rfl) ?_
    obtain ⟨v7, e6, h⟩ := zb_o h
    refine za_geti hx hb hts hown hK hI zl_Agreement_49 e6 zd_Agreement_runOutOfTime_15 ?_
    refine lv_iconst (v := nI 4) hx hb zd_Agreement_runOutOfTime_18 (by decide) ?_
    refine lv_icmp_ge hx hb (tgt := 26) zd_Agreement_runOutOfTime_19 (by decide) (fun c8 => ?_) (fun c8 => ?_)
    · replace h := zb_t c8 h
      exact B26 _ _ ls σ3 hI (lv_sub hl [] rfl) h
    · replace h := zb_f c8 h
      refine lv_aload_n hx hb zd_Agreement_runOutOfTime_22 rfl (lv_at hl 0 rfl) ?_
      obtain ⟨_, g9, h⟩ := zb_o h
      obtain ⟨⟨r10, σ11⟩, e12, h⟩ := zb_o h
      refine za_callv (za_runV hx hb hml hown hts hK hI g9 (zm_Agreement_raiseCounter e12) zj_Agreement_62 ⟨rfl, rfl⟩ ⟨Nat.le_of_ble_eq_true rfl, Nat.le_of_ble_eq_true rfl⟩ rfl hl.1 rfl (Nat.le_of_ble_eq_true rfl) zd_Agreement_runOutOfTime_23 ⟨Nat.le_of_ble_eq_true rfl, Nat.le_of_ble_eq_true rfl⟩) hI (fun H locs hI => ?_)
      exact B26 _ _ ls σ11 hI (lv_sub hl [] rfl) h
  · replace h := zb_t c5 h
    refine lv_aload_n hx hb zd_Agreement_runOutOfTime_7 rfl (lv_at hl 0 rfl) ?_
    obtain ⟨_, g13, h⟩ := zb_o h
    obtain ⟨⟨r14, σ15⟩, e16, h⟩ := zb_o h
    refine za_callv (za_runV hx hb hml hown hts hK hI g13 (zm_Agreement_beginRound e16) zj_Agreement_59 ⟨rfl, rfl⟩ ⟨Nat.le_of_ble_eq_true rfl, Nat.le_of_ble_eq_true rfl⟩ rfl hl.1 rfl (Nat.le_of_ble_eq_true rfl) zd_Agreement_runOutOfTime_8 ⟨Nat.le_of_ble_eq_true rfl, Nat.le_of_ble_eq_true rfl⟩) hI (fun H locs hI => ?_)
    refine lv_goto hx hb (tgt := 26) zd_Agreement_runOutOfTime_11 (by decide) ?_
    exact B26 _ _ ls σ15 hI (lv_sub hl [] rfl) h

def zf_Agreement_ofKind_25 (as0 : Nat) (σ : za_h) : Option (Nat × za_h) :=
  some (as0, σ)

def zf_Agreement_ofKind (ay0 : Nat) (xy1 : Int32) (σ : za_h) : Option (Nat × za_h) :=
  if xy1 = 0 then
  ((zg_r σ ay0 1 3).bind fun b8 =>
  some (b8, σ))
  else
  (if xy1 = (nI 1) then
  ((zg_r σ ay0 1 4).bind fun b6 =>
  zf_Agreement_ofKind_25 b6 σ)
  else
  ((zg_r σ ay0 1 5).bind fun b4 =>
  zf_Agreement_ofKind_25 b4 σ))
set_option maxRecDepth 100000 in
set_option maxHeartbeats 4000000 in
theorem zm_Agreement_ofKind {l : Launch} {D : va_G} {ca : Nat → ClassId} {n0 : Nat} {ay0 : Nat} {xy1 : Int32} {σ σ' : za_h} {r : Nat} (h : zf_Agreement_ofKind ay0 xy1 σ = some (r, σ')) : Met l zy_Agreement_ofKind (za_wy zy_Agreement_ofKind zc_Agreement_ofKind 2 (some (.object "TrustLedger$Statements"))) { frames := 0, cells := 0, slots := 0, locals := 0 } (za_Pc D ca n0 [.ref ay0, .int xy1] σ) (za_Qr D ca n0 r σ') 0 0 (za_A n0) := by
  refine za_met (by decide) (Nat.le_of_ble_eq_true rfl) ?_
  intro p e s m below meth c ls hx hb hml hr hlk hts hown hnm hK hI hl
  replace hown : s.vm.findClass zR_Agreement = some m.cls := hown
  replace hl : lv_has ls 2 [(0, .ref ay0), (1, .int xy1)] := hl
  have B25 : ∀ (H : Heap) (locs : List Loc) (ls : Array Slot) (as0 : Nat) (σ : za_h), za_I D ca n0 s σ H locs → lv_has ls 2 [] → zf_Agreement_ofKind_25 as0 σ = some (r, σ') → W p l e ({ frames := 0, cells := 0, slots := 0, locals := 0 }) s m ([.ref ay0, .int xy1] : List Value).toArray below meth c H locs 0 0 (MQ below (za_Qr D ca n0 r σ') ([.ref ay0, .int xy1] : List Value).toArray s 0 0 (za_A n0)) (F0 m 25 ls [.ref as0]) := by
    intro H locs ls as0 σ hI hl h
    unfold zf_Agreement_ofKind_25 at h
    exact za_aret hx hb hr (Or.inl ⟨_, rfl⟩) hlk hI h (Nat.le_of_ble_eq_true rfl) (Nat.le_of_ble_eq_true rfl) zd_Agreement_ofKind_25
  unfold zf_Agreement_ofKind at h
  refine lv_iload_n hx hb zd_Agreement_ofKind_0 rfl (lv_at hl 1 rfl) ?_
  refine lv_if_ne hx hb (tgt := 9) zd_Agreement_ofKind_1 (by decide) (fun c1 => ?_) (fun c1 => ?_)
  · replace h := zb_f c1 h
    refine lv_iload_n hx hb zd_Agreement_ofKind_9 rfl (lv_at hl 1 rfl) ?_
    refine lv_iconst (v := nI 1) hx hb zd_Agreement_ofKind_10 (by decide) ?_
    refine lv_icmp_ne hx hb (tgt := 21) zd_Agreement_ofKind_11 (by decide) (fun c2 => ?_) (fun c2 => ?_)
    · replace h := zb_f c2 h
      refine lv_aload_n hx hb zd_Agreement_ofKind_21 rfl (lv_at hl 0 rfl) ?_
      obtain ⟨b4, e3, h⟩ := zb_o h
      refine za_getr hx hb hts hown hK hI zl_Agreement_40 e3 zd_Agreement_ofKind_22 ?_
      exact B25 _ _ ls b4 σ hI (lv_sub hl [] rfl) h
    · replace h := zb_t c2 h
      refine lv_aload_n hx hb zd_Agreement_ofKind_14 rfl (lv_at hl 0 rfl) ?_
      obtain ⟨b6, e5, h⟩ := zb_o h
      refine za_getr hx hb hts hown hK hI zl_Agreement_37 e5 zd_Agreement_ofKind_15 ?_
      refine lv_goto hx hb (tgt := 25) zd_Agreement_ofKind_18 (by decide) ?_
      exact B25 _ _ ls b6 σ hI (lv_sub hl [] rfl) h
  · replace h := zb_t c1 h
    refine lv_aload_n hx hb zd_Agreement_ofKind_4 rfl (lv_at hl 0 rfl) ?_
    obtain ⟨b8, e7, h⟩ := zb_o h
    refine za_getr hx hb hts hown hK hI zl_Agreement_33 e7 zd_Agreement_ofKind_5 ?_
    exact za_aret hx hb hr (Or.inl ⟨_, rfl⟩) hlk hI h (Nat.le_of_ble_eq_true rfl) (Nat.le_of_ble_eq_true rfl) zd_Agreement_ofKind_8

def zf_Agreement_learn_2 : Nat → Nat → Nat → Int32 → za_h → Option (Unit × za_h)
  | 0, _, _, _, _ => none
  | n + 1, a0, a1, x2, σ =>
  if (nI 3) ≤ x2 then
  (some ((), σ))
  else
  ((zg_c σ a0 1).bind fun _ =>
  (zf_Agreement_ofKind a0 x2 σ).bind fun (r3, σ4) =>
  (zg_r σ4 r3 7 4).bind fun b7 =>
  (zg_i σ4 a1 2 0).bind fun v9 =>
  (za_ld σ4 b7 0 v9).bind fun v10 =>
  (zg_r σ4 a1 2 2).bind fun b13 =>
  (za_ld σ4 b13 0 x2).bind fun v14 =>
  (za_st σ4 b7 0 v9 (v10 ||| v14)).bind fun σ16 =>
  (zg_r σ16 r3 7 5).bind fun b19 =>
  (zg_i σ16 a1 2 0).bind fun v21 =>
  (za_ld σ16 b19 0 v21).bind fun v22 =>
  (zg_r σ16 a1 2 3).bind fun b25 =>
  (za_ld σ16 b25 0 x2).bind fun v26 =>
  (za_st σ16 b19 0 v21 (v22 ||| v26)).bind fun σ28 =>
  zf_Agreement_learn_2 n a0 a1 (x2 + nI 1) σ28)

def zf_Agreement_learn (ay0 : Nat) (ay1 : Nat) (σ : za_h) : Option (Unit × za_h) :=
  zf_Agreement_learn_2 6 ay0 ay1 (nI 0) σ
set_option maxRecDepth 100000 in
set_option maxHeartbeats 4000000 in
theorem zm_Agreement_learn {l : Launch} {D : va_G} {ca : Nat → ClassId} {n0 : Nat} {ay0 : Nat} {ay1 : Nat} {σ σ' : za_h} {r : Unit} (h : zf_Agreement_learn ay0 ay1 σ = some (r, σ')) : Met l zy_Agreement_learn (za_wy zy_Agreement_learn zc_Agreement_learn 4 none) { frames := 1, cells := 0, slots := 0, locals := 21 } (za_Pc D ca n0 [.ref ay0, .ref ay1] σ) (za_Qv D ca n0 r σ') 0 0 (za_A n0) := by
  refine za_met (by decide) (Nat.le_of_ble_eq_true rfl) ?_
  intro p e s m below meth c ls hx hb hml hr hlk hts hown hnm hK hI hl
  replace hown : s.vm.findClass zR_Agreement = some m.cls := hown
  replace hl : lv_has ls 4 [(0, .ref ay0), (1, .ref ay1)] := hl
  have B2 : ∀ n : Nat, ∀ (H : Heap) (locs : List Loc) (ls : Array Slot) (a0 : Nat) (a1 : Nat) (x2 : Int32) (σ : za_h), za_I D ca n0 s σ H locs → lv_has ls 4 [(0, .ref a0), (1, .ref a1), (2, .int x2)] → zf_Agreement_learn_2 n a0 a1 x2 σ = some (r, σ') → W p l e ({ frames := 1, cells := 0, slots := 0, locals := 21 }) s m ([.ref ay0, .ref ay1] : List Value).toArray below meth c H locs 0 0 (MQ below (za_Qv D ca n0 r σ') ([.ref ay0, .ref ay1] : List Value).toArray s 0 0 (za_A n0)) (F0 m 2 ls []) := by
    intro n
    induction n with
    | zero => intro H locs ls a0 a1 x2 σ hI hl h; rw [zf_Agreement_learn_2] at h; cases h
    | succ n ih =>
      intro H locs ls a0 a1 x2 σ hI hl h
      rw [zf_Agreement_learn_2] at h
      refine lv_iload_n hx hb zd_Agreement_learn_2 rfl (lv_at hl 2 rfl) ?_
      refine lv_iconst (v := nI 3) hx hb zd_Agreement_learn_3 (by decide) ?_
      refine lv_icmp_ge hx hb (tgt := 55) zd_Agreement_learn_4 (by decide) (fun c1 => ?_) (fun c1 => ?_)
      · replace h := zb_t c1 h
        exact za_vret hx hb hr hlk hI h (Nat.le_of_ble_eq_true rfl) (Nat.le_of_ble_eq_true rfl) zd_Agreement_learn_55
      · replace h := zb_f c1 h
        refine lv_aload_n hx hb zd_Agreement_learn_7 rfl (lv_at hl 0 rfl) ?_
        refine lv_iload_n hx hb zd_Agreement_learn_8 rfl (lv_at hl 2 rfl) ?_
        obtain ⟨_, g2, h⟩ := zb_o h
        obtain ⟨⟨r3, σ4⟩, e5, h⟩ := zb_o h
        refine za_callr (za_runV hx hb hml hown hts hK hI g2 (zm_Agreement_ofKind e5) zj_Agreement_65 ⟨rfl, rfl⟩ ⟨Nat.le_of_ble_eq_true rfl, Nat.le_of_ble_eq_true rfl⟩ rfl hl.1 rfl (Nat.le_of_ble_eq_true rfl) zd_Agreement_learn_9 ⟨Nat.le_of_ble_eq_true rfl, Nat.le_of_ble_eq_true rfl⟩) hI (fun H locs hI => ?_)
        refine lv_astore_n (lv' := [(3, .ref r3), (0, .ref a0), (1, .ref a1), (2, .int x2)]) hx hb zd_Agreement_learn_12 rfl hl (Nat.le_of_ble_eq_true rfl) rfl (fun ls hl => ?_)
        refine lv_aload_n hx hb zd_Agreement_learn_13 rfl (lv_at hl 0 rfl) ?_
        obtain ⟨b7, e6, h⟩ := zb_o h
        refine za_getr hx hb hts hown hK hI zl_Agreement_69 e6 zd_Agreement_learn_14 ?_
        refine lv_aload_n hx hb zd_Agreement_learn_17 rfl (lv_at hl 2 rfl) ?_
        obtain ⟨v9, e8, h⟩ := zb_o h
        refine za_geti hx hb hts hown hK hI zl_Agreement_73 e8 zd_Agreement_learn_18 ?_
        refine lv_dup2_11 hx hb zd_Agreement_learn_21 rfl rfl ?_
        obtain ⟨v10, e11, h⟩ := zb_o h
        refine za_iald hx hb hK hI e11 zd_Agreement_learn_22 ?_
        refine lv_aload_n hx hb zd_Agreement_learn_23 rfl (lv_at hl 2 rfl) ?_
        obtain ⟨b13, e12, h⟩ := zb_o h
        refine za_getr hx hb hts hown hK hI zl_Agreement_78 e12 zd_Agreement_learn_24 ?_
        refine lv_iload_n hx hb zd_Agreement_learn_27 rfl (lv_at hl 3 rfl) ?_
        obtain ⟨v14, e15, h⟩ := zb_o h
        refine za_iald hx hb hK hI e15 zd_Agreement_learn_28 ?_
        refine lv_ior hx hb zd_Agreement_learn_29 ?_
        obtain ⟨σ16, e17, h⟩ := zb_o h
        refine za_iast hx hb hK hI e17 zd_Agreement_learn_30 (fun H locs hI => ?_)
        refine lv_aload_n hx hb zd_Agreement_learn_31 rfl (lv_at hl 0 rfl) ?_
        obtain ⟨b19, e18, h⟩ := zb_o h
        refine za_getr hx hb hts hown hK hI zl_Agreement_79 e18 zd_Agreement_learn_32 ?_
        refine lv_aload_n hx hb zd_Agreement_learn_35 rfl (lv_at hl 2 rfl) ?_
        obtain ⟨v21, e20, h⟩ := zb_o h
        refine za_geti hx hb hts hown hK hI zl_Agreement_73 e20 zd_Agreement_learn_36 ?_
        refine lv_dup2_11 hx hb zd_Agreement_learn_39 rfl rfl ?_
        obtain ⟨v22, e23, h⟩ := zb_o h
        refine za_iald hx hb hK hI e23 zd_Agreement_learn_40 ?_
        refine lv_aload_n hx hb zd_Agreement_learn_41 rfl (lv_at hl 2 rfl) ?_
        obtain ⟨b25, e24, h⟩ := zb_o h
        refine za_getr hx hb hts hown hK hI zl_Agreement_82 e24 zd_Agreement_learn_42 ?_
        refine lv_iload_n hx hb zd_Agreement_learn_45 rfl (lv_at hl 3 rfl) ?_
        obtain ⟨v26, e27, h⟩ := zb_o h
        refine za_iald hx hb hK hI e27 zd_Agreement_learn_46 ?_
        refine lv_ior hx hb zd_Agreement_learn_47 ?_
        obtain ⟨σ28, e29, h⟩ := zb_o h
        refine za_iast hx hb hK hI e29 zd_Agreement_learn_48 (fun H locs hI => ?_)
        refine lv_iinc (k := 3) (v := (x2 + nI 1)) (lv' := [(2, .int (x2 + nI 1)), (3, .ref r3), (0, .ref a0), (1, .ref a1)]) hx hb zd_Agreement_learn_49 hl rfl rfl (Nat.le_of_ble_eq_true rfl) rfl (fun ls hl => ?_)
        refine lv_goto hx hb (tgt := 2) zd_Agreement_learn_52 (by decide) ?_
        exact ih _ _ ls a0 a1 (x2 + nI 1) σ28 hI (lv_sub hl [2, 3, 0] rfl) h
  unfold zf_Agreement_learn at h
  refine lv_iconst (v := nI 0) hx hb zd_Agreement_learn_0 (by decide) ?_
  refine lv_istore_n (lv' := [(2, .int (nI 0)), (0, .ref ay0), (1, .ref ay1)]) hx hb zd_Agreement_learn_1 rfl hl (Nat.le_of_ble_eq_true rfl) rfl (fun ls hl => ?_)
  exact B2 6 _ _ ls ay0 ay1 (nI 0) σ hI (lv_sub hl [1, 2, 0] rfl) h

def zf_Agreement_aspect (ay0 : Nat) (xy1 : Int32) (σ : za_h) : Option (Int32 × za_h) :=
  if xy1 = (nI 1) then
  ((zg_i σ ay0 1 7).bind fun v3 =>
  some (v3, σ))
  else if xy1 = (nI 2) then
  ((zg_i σ ay0 1 8).bind fun v6 =>
  some (v6, σ))
  else if xy1 = (nI 3) then
  ((zg_i σ ay0 1 9).bind fun v9 =>
  some (v9, σ))
  else if xy1 = (nI 4) then
  ((zg_c σ ay0 1).bind fun _ =>
  (zf_Agreement_composite ay0 σ).bind fun (r12, σ13) =>
  some (r12, σ13))
  else ((zg_i σ ay0 1 6).bind fun v16 =>
  some (v16, σ))
set_option maxRecDepth 100000 in
set_option maxHeartbeats 4000000 in
theorem zm_Agreement_aspect {l : Launch} {D : va_G} {ca : Nat → ClassId} {n0 : Nat} {ay0 : Nat} {xy1 : Int32} {σ σ' : za_h} {r : Int32} (h : zf_Agreement_aspect ay0 xy1 σ = some (r, σ')) : Met l zy_Agreement_aspect (za_wy zy_Agreement_aspect zc_Agreement_aspect 2 (some .int)) { frames := 2, cells := 0, slots := 0, locals := 43 } (za_Pc D ca n0 [.ref ay0, .int xy1] σ) (za_Qi D ca n0 r σ') 0 0 (za_A n0) := by
  refine za_met (by decide) (Nat.le_of_ble_eq_true rfl) ?_
  intro p e s m below meth c ls hx hb hml hr hlk hts hown hnm hK hI hl
  replace hown : s.vm.findClass zR_Agreement = some m.cls := hown
  replace hl : lv_has ls 2 [(0, .ref ay0), (1, .int xy1)] := hl
  unfold zf_Agreement_aspect at h
  refine lv_iload_n hx hb zd_Agreement_aspect_0 rfl (lv_at hl 1 rfl) ?_
  by_cases c1 : xy1 = (nI 1)
  · replace h := zb_t c1 h
    refine lv_tableIn hx hb (tgt := 32) zd_Agreement_aspect_1 (by rw [c1]; decide) (by rw [c1]; decide) (by rw [c1]; rfl) (by decide) ?_
    refine lv_aload_n hx hb zd_Agreement_aspect_32 rfl (lv_at hl 0 rfl) ?_
    obtain ⟨v3, e2, h⟩ := zb_o h
    refine za_geti hx hb hts hown hK hI zl_Agreement_43 e2 zd_Agreement_aspect_33 ?_
    exact za_iret hx hb hr hlk hI h (Nat.le_of_ble_eq_true rfl) (Nat.le_of_ble_eq_true rfl) zd_Agreement_aspect_36
  replace h := zb_f c1 h
  by_cases c4 : xy1 = (nI 2)
  · replace h := zb_t c4 h
    refine lv_tableIn hx hb (tgt := 37) zd_Agreement_aspect_1 (by rw [c4]; decide) (by rw [c4]; decide) (by rw [c4]; rfl) (by decide) ?_
    refine lv_aload_n hx hb zd_Agreement_aspect_37 rfl (lv_at hl 0 rfl) ?_
    obtain ⟨v6, e5, h⟩ := zb_o h
    refine za_geti hx hb hts hown hK hI zl_Agreement_46 e5 zd_Agreement_aspect_38 ?_
    exact za_iret hx hb hr hlk hI h (Nat.le_of_ble_eq_true rfl) (Nat.le_of_ble_eq_true rfl) zd_Agreement_aspect_41
  replace h := zb_f c4 h
  by_cases c7 : xy1 = (nI 3)
  · replace h := zb_t c7 h
    refine lv_tableIn hx hb (tgt := 42) zd_Agreement_aspect_1 (by rw [c7]; decide) (by rw [c7]; decide) (by rw [c7]; rfl) (by decide) ?_
    refine lv_aload_n hx hb zd_Agreement_aspect_42 rfl (lv_at hl 0 rfl) ?_
    obtain ⟨v9, e8, h⟩ := zb_o h
    refine za_geti hx hb hts hown hK hI zl_Agreement_49 e8 zd_Agreement_aspect_43 ?_
    exact za_iret hx hb hr hlk hI h (Nat.le_of_ble_eq_true rfl) (Nat.le_of_ble_eq_true rfl) zd_Agreement_aspect_46
  replace h := zb_f c7 h
  by_cases c10 : xy1 = (nI 4)
  · replace h := zb_t c10 h
    refine lv_tableIn hx hb (tgt := 47) zd_Agreement_aspect_1 (by rw [c10]; decide) (by rw [c10]; decide) (by rw [c10]; rfl) (by decide) ?_
    refine lv_aload_n hx hb zd_Agreement_aspect_47 rfl (lv_at hl 0 rfl) ?_
    obtain ⟨_, g11, h⟩ := zb_o h
    obtain ⟨⟨r12, σ13⟩, e14, h⟩ := zb_o h
    refine za_calli (za_runV hx hb hml hown hts hK hI g11 (zm_Agreement_composite e14) zj_Agreement_52 ⟨rfl, rfl⟩ ⟨Nat.le_of_ble_eq_true rfl, Nat.le_of_ble_eq_true rfl⟩ rfl hl.1 rfl (Nat.le_of_ble_eq_true rfl) zd_Agreement_aspect_48 ⟨Nat.le_of_ble_eq_true rfl, Nat.le_of_ble_eq_true rfl⟩) hI (fun H locs hI => ?_)
    exact za_iret hx hb hr hlk hI h (Nat.le_of_ble_eq_true rfl) (Nat.le_of_ble_eq_true rfl) zd_Agreement_aspect_51
  replace h := zb_f c10 h
  refine lv_tableOut hx hb (tgt := 52) zd_Agreement_aspect_1 (za_sw 1 4 (by decide) (by intro k h1 h2; rcases (show k = 1 ∨ k = 2 ∨ k = 3 ∨ k = 4 by omega) with rfl | rfl | rfl | rfl <;> assumption)) (by decide) ?_
  refine lv_aload_n hx hb zd_Agreement_aspect_52 rfl (lv_at hl 0 rfl) ?_
  obtain ⟨v16, e15, h⟩ := zb_o h
  refine za_geti hx hb hts hown hK hI zl_Agreement_56 e15 zd_Agreement_aspect_53 ?_
  exact za_iret hx hb hr hlk hI h (Nat.le_of_ble_eq_true rfl) (Nat.le_of_ble_eq_true rfl) zd_Agreement_aspect_56
