def zf_Ledger_init_20 : Nat → Nat → Int32 → za_h → Option (Unit × za_h)
  | 0, _, _, _ => none
  | n + 1, a0, x1, σ =>
  if (nI 4) ≤ x1 then
  ((zp_f (za_n σ (.inl (5, 8, .inr (fun _ => none)))) a0 3 2 (.ref σ.2)).bind fun σ3 =>
  some ((), σ3))
  else
  ((zg_r σ a0 3 0).bind fun b5 =>
  (za_st σ b5 0 x1 (nI 100)).bind fun σ6 =>
  (zg_r σ6 a0 3 1).bind fun b9 =>
  (za_st σ6 b9 0 x1 (nI 20)).bind fun σ10 =>
  zf_Ledger_init_20 n a0 (x1 + nI 1) σ10)

def zf_Ledger_init (ay0 : Nat) (σ : za_h) : Option (Unit × za_h) :=
  (zp_f (za_n σ (.inl (0, 4, .inl (fun _ => 0)))) ay0 3 0 (.ref σ.2)).bind fun σ2 =>
  (zp_f (za_n σ2 (.inl (0, 4, .inl (fun _ => 0)))) ay0 3 1 (.ref σ2.2)).bind fun σ4 =>
  zf_Ledger_init_20 6 ay0 (nI 0) σ4
set_option maxRecDepth 100000 in
set_option maxHeartbeats 4000000 in
theorem zm_Ledger_init {l : Launch} {D : va_G} {ca : Nat → ClassId} {n0 : Nat} {ay0 : Nat} {σ σ' : za_h} {r : Unit} (h : zf_Ledger_init ay0 σ = some (r, σ')) : Met l zy_Ledger_init (za_wy zy_Ledger_init zc_Ledger_init 2 none) { frames := 1, cells := 3, slots := 16, locals := 20 } (za_Pc D ca n0 [.ref ay0] σ) (za_Qv D ca n0 r σ') 3 16 (za_A n0) := by
  refine za_met (by decide) (Nat.le_of_ble_eq_true rfl) ?_
  intro p e s m below meth c ls hx hb hml hr hlk hts hown hnm hK hI hl
  replace hown : s.vm.findClass zR_Ledger = some m.cls := hown
  replace hl : lv_has ls 2 [(0, .ref ay0)] := hl
  have B20 : ∀ n : Nat, ∀ (H : Heap) (locs : List Loc) (ls : Array Slot) (a0 : Nat) (x1 : Int32) (σ : za_h), za_I D ca n0 s σ H locs → lv_has ls 2 [(0, .ref a0), (1, .int x1)] → zf_Ledger_init_20 n a0 x1 σ = some (r, σ') → W p l e ({ frames := 1, cells := 3, slots := 16, locals := 20 }) s m ([.ref ay0] : List Value).toArray below meth c H locs 2 8 (MQ below (za_Qv D ca n0 r σ') ([.ref ay0] : List Value).toArray s 3 16 (za_A n0)) (F0 m 20 ls []) := by
    intro n
    induction n with
    | zero => intro H locs ls a0 x1 σ hI hl h; rw [zf_Ledger_init_20] at h; cases h
    | succ n ih =>
      intro H locs ls a0 x1 σ hI hl h
      rw [zf_Ledger_init_20] at h
      refine lv_iload_n hx hb zd_Ledger_init_20 rfl (lv_at hl 1 rfl) ?_
      refine lv_iconst (v := nI 4) hx hb zd_Ledger_init_21 (by decide) ?_
      refine lv_icmp_ge hx hb (tgt := 47) zd_Ledger_init_22 (by decide) (fun c1 => ?_) (fun c1 => ?_)
      · replace h := zb_t c1 h
        refine lv_aload_n hx hb zd_Ledger_init_47 rfl (lv_at hl 0 rfl) ?_
        refine lv_bipush (v := nI 8) hx hb zd_Ledger_init_48 (by decide) ?_
        refine za_newq hx hb hts hown hK hI 5 rfl zk_145 (by decide) (N := 8) (by decide) (by decide) (Nat.le_of_ble_eq_true rfl) (Nat.le_of_ble_eq_true rfl) zd_Ledger_init_50 (fun H hI => ?_)
        obtain ⟨σ3, e2, h⟩ := zb_o h
        refine za_putF hx hb hts hown hnm hK hI zq_Ledger_20 e2 rfl rfl zd_Ledger_init_53 (fun H locs hI => ?_)
        exact za_vret hx hb hr hlk hI h (Nat.le_of_ble_eq_true rfl) (Nat.le_of_ble_eq_true rfl) zd_Ledger_init_56
      · replace h := zb_f c1 h
        refine lv_aload_n hx hb zd_Ledger_init_25 rfl (lv_at hl 0 rfl) ?_
        obtain ⟨b5, e4, h⟩ := zb_o h
        refine za_getr hx hb hts hown hK hI zl_Ledger_9 e4 zd_Ledger_init_26 ?_
        refine lv_iload_n hx hb zd_Ledger_init_29 rfl (lv_at hl 1 rfl) ?_
        refine lv_bipush (v := nI 100) hx hb zd_Ledger_init_30 (by decide) ?_
        obtain ⟨σ6, e7, h⟩ := zb_o h
        refine za_iast hx hb hK hI e7 zd_Ledger_init_32 (fun H locs hI => ?_)
        refine lv_aload_n hx hb zd_Ledger_init_33 rfl (lv_at hl 0 rfl) ?_
        obtain ⟨b9, e8, h⟩ := zb_o h
        refine za_getr hx hb hts hown hK hI zl_Ledger_15 e8 zd_Ledger_init_34 ?_
        refine lv_iload_n hx hb zd_Ledger_init_37 rfl (lv_at hl 1 rfl) ?_
        refine lv_bipush (v := nI 20) hx hb zd_Ledger_init_38 (by decide) ?_
        obtain ⟨σ10, e11, h⟩ := zb_o h
        refine za_iast hx hb hK hI e11 zd_Ledger_init_40 (fun H locs hI => ?_)
        refine lv_iinc (k := 1) (v := (x1 + nI 1)) (lv' := [(1, .int (x1 + nI 1)), (0, .ref a0)]) hx hb zd_Ledger_init_41 hl rfl rfl (Nat.le_of_ble_eq_true rfl) rfl (fun ls hl => ?_)
        refine lv_goto hx hb (tgt := 20) zd_Ledger_init_44 (by decide) ?_
        exact ih _ _ ls a0 (x1 + nI 1) σ10 hI (lv_sub hl [1, 0] rfl) h
  unfold zf_Ledger_init at h
  refine lv_aload_n hx hb zd_Ledger_init_0 rfl (lv_at hl 0 rfl) ?_
  refine W.objInit hx hb hown (hts _ zk_144) (hts _ zk_20) (hts _ zk_21) rfl (by rw [hml]; exact hl.1) rfl zd_Ledger_init_1 (Nat.le_of_ble_eq_true rfl) (Nat.le_of_ble_eq_true rfl) ?_
  refine W.eq (g2 := F0 m 4 ls []) rfl ?_
  refine lv_aload_n hx hb zd_Ledger_init_4 rfl (lv_at hl 0 rfl) ?_
  refine lv_iconst (v := nI 4) hx hb zd_Ledger_init_5 (by decide) ?_
  refine za_newa (atype := .int) (ty := .int) hx hb hts hK hI 0 rfl rfl (Or.inl rfl) zk_101 (by decide) (N := 4) (by decide) (by decide) (Nat.le_of_ble_eq_true rfl) (Nat.le_of_ble_eq_true rfl) zd_Ledger_init_6 (fun H hI => ?_)
  obtain ⟨σ2, e1, h⟩ := zb_o h
  refine za_putF hx hb hts hown hnm hK hI zq_Ledger_9 e1 rfl rfl zd_Ledger_init_8 (fun H locs hI => ?_)
  refine lv_aload_n hx hb zd_Ledger_init_11 rfl (lv_at hl 0 rfl) ?_
  refine lv_iconst (v := nI 4) hx hb zd_Ledger_init_12 (by decide) ?_
  refine za_newa (atype := .int) (ty := .int) hx hb hts hK hI 0 rfl rfl (Or.inl rfl) zk_101 (by decide) (N := 4) (by decide) (by decide) (Nat.le_of_ble_eq_true rfl) (Nat.le_of_ble_eq_true rfl) zd_Ledger_init_13 (fun H hI => ?_)
  obtain ⟨σ4, e3, h⟩ := zb_o h
  refine za_putF hx hb hts hown hnm hK hI zq_Ledger_15 e3 rfl rfl zd_Ledger_init_15 (fun H locs hI => ?_)
  refine lv_iconst (v := nI 0) hx hb zd_Ledger_init_18 (by decide) ?_
  refine lv_istore_n (lv' := [(1, .int (nI 0)), (0, .ref ay0)]) hx hb zd_Ledger_init_19 rfl hl (Nat.le_of_ble_eq_true rfl) rfl (fun ls hl => ?_)
  exact B20 6 _ _ ls ay0 (nI 0) σ4 hI (lv_sub hl [1, 0] rfl) h

def zf_Node_init_14 : Nat → Nat → Int32 → Nat → Int32 → za_h → Option (Unit × za_h)
  | 0, _, _, _, _, _ => none
  | n + 1, a0, x1, a2, x3, σ =>
  if (nI 3) ≤ x3 then
  ((zf_Ledger_init σ.2 (za_n σ (.inr (3, [.null, .null, .null, .int 0])))).bind fun (_, σ3) =>
  (zp_f σ3 a0 4 1 (.ref σ.2)).bind fun σ6 =>
  some ((), σ6))
  else
  ((zg_r σ a0 4 0).bind fun b8 =>
  (zf_Agreement_init σ.2 x1 x3 a2 (za_n σ (.inr (1, [.int 0, .int 0, .null, .null, .null, .null, .int 0, .int 0, .int 0, .int 0, .int 0])))).bind fun (_, σ10) =>
  (za_sq σ10 b8 2 1 x3 (some σ.2)).bind fun σ12 =>
  zf_Node_init_14 n a0 x1 a2 (x3 + nI 1) σ12)

def zf_Node_init (ay0 : Nat) (xy1 : Int32) (ay2 : Nat) (σ : za_h) : Option (Unit × za_h) :=
  (zp_f (za_n σ (.inl (2, 3, .inr (fun _ => none)))) ay0 4 0 (.ref σ.2)).bind fun σ2 =>
  zf_Node_init_14 4 ay0 xy1 ay2 (nI 0) σ2
set_option maxRecDepth 100000 in
set_option maxHeartbeats 4000000 in
theorem zm_Node_init {l : Launch} {D : va_G} {ca : Nat → ClassId} {n0 : Nat} {ay0 : Nat} {xy1 : Int32} {ay2 : Nat} {σ σ' : za_h} {r : Unit} (h : zf_Node_init ay0 xy1 ay2 σ = some (r, σ')) : Met l zy_Node_init (za_wy zy_Node_init zc_Node_init 4 none) { frames := 3, cells := 45, slots := 259, locals := 65 } (za_Pc D ca n0 [.ref ay0, .int xy1, .ref ay2] σ) (za_Qv D ca n0 r σ') 45 259 (za_A n0) := by
  refine za_met (by decide) (Nat.le_of_ble_eq_true rfl) ?_
  intro p e s m below meth c ls hx hb hml hr hlk hts hown hnm hK hI hl
  replace hown : s.vm.findClass zR_Node = some m.cls := hown
  replace hl : lv_has ls 4 [(0, .ref ay0), (1, .int xy1), (2, .ref ay2)] := hl
  have B14 : ∀ n : Nat, ∀ (H : Heap) (locs : List Loc) (cells slots : Nat) (_ : cells + n * 10 ≤ 41) (_ : slots + n * 59 ≤ 239) (ls : Array Slot) (a0 : Nat) (x1 : Int32) (a2 : Nat) (x3 : Int32) (σ : za_h), za_I D ca n0 s σ H locs → lv_has ls 4 [(0, .ref a0), (1, .int x1), (2, .ref a2), (3, .int x3)] → zf_Node_init_14 n a0 x1 a2 x3 σ = some (r, σ') → W p l e ({ frames := 3, cells := 45, slots := 259, locals := 65 }) s m ([.ref ay0, .int xy1, .ref ay2] : List Value).toArray below meth c H locs cells slots (MQ below (za_Qv D ca n0 r σ') ([.ref ay0, .int xy1, .ref ay2] : List Value).toArray s 45 259 (za_A n0)) (F0 m 14 ls []) := by
    intro n
    induction n with
    | zero => intro H locs cells slots hcl hsl ls a0 x1 a2 x3 σ hI hl h; rw [zf_Node_init_14] at h; cases h
    | succ n ih =>
      intro H locs cells slots hcl hsl ls a0 x1 a2 x3 σ hI hl h
      rw [zf_Node_init_14] at h
      refine lv_iload_n hx hb zd_Node_init_14 rfl (lv_at hl 3 rfl) ?_
      refine lv_iconst (v := nI 3) hx hb zd_Node_init_15 (by decide) ?_
      refine lv_icmp_ge hx hb (tgt := 41) zd_Node_init_16 (by decide) (fun c1 => ?_) (fun c1 => ?_)
      · replace h := zb_t c1 h
        refine lv_aload_n hx hb zd_Node_init_41 rfl (lv_at hl 0 rfl) ?_
        refine za_new hx hb hts hown hK hI zw_Node_20 (by show _ + _ ≤ 45; omega) (by show _ + _ ≤ 259; omega) zd_Node_init_42 (fun H hI => ?_)
        refine lv_dup hx hb zd_Node_init_45 rfl ?_
        obtain ⟨⟨r2, σ3⟩, e4, h⟩ := zb_o h
        refine za_callv (za_runI hx hb hml hown hts hK hI (zm_Ledger_init e4) zj_Node_22 ⟨rfl, rfl⟩ ⟨Nat.le_of_ble_eq_true rfl, Nat.le_of_ble_eq_true rfl⟩ rfl hl.1 rfl (Nat.le_of_ble_eq_true rfl) zd_Node_init_46 ⟨by show _ + _ ≤ 45; omega, by show _ + _ ≤ 259; omega⟩) hI (fun H locs hI => ?_)
        obtain ⟨σ6, e5, h⟩ := zb_o h
        refine za_putF hx hb hts hown hnm hK hI zq_Node_23 e5 rfl rfl zd_Node_init_49 (fun H locs hI => ?_)
        exact za_vret hx hb hr hlk hI h (by omega) (by omega) zd_Node_init_52
      · replace h := zb_f c1 h
        refine lv_aload_n hx hb zd_Node_init_19 rfl (lv_at hl 0 rfl) ?_
        obtain ⟨b8, e7, h⟩ := zb_o h
        refine za_getr hx hb hts hown hK hI zl_Node_11 e7 zd_Node_init_20 ?_
        refine lv_iload_n hx hb zd_Node_init_23 rfl (lv_at hl 3 rfl) ?_
        refine za_new hx hb hts hown hK hI zw_Node_9 (by show _ + _ ≤ 45; omega) (by show _ + _ ≤ 259; omega) zd_Node_init_24 (fun H hI => ?_)
        refine lv_dup hx hb zd_Node_init_27 rfl ?_
        refine lv_iload_n hx hb zd_Node_init_28 rfl (lv_at hl 1 rfl) ?_
        refine lv_iload_n hx hb zd_Node_init_29 rfl (lv_at hl 3 rfl) ?_
        refine lv_aload_n hx hb zd_Node_init_30 rfl (lv_at hl 2 rfl) ?_
        obtain ⟨⟨r9, σ10⟩, e11, h⟩ := zb_o h
        refine za_callv (za_runI hx hb hml hown hts hK hI (zm_Agreement_init e11) zj_Node_17 ⟨rfl, rfl⟩ ⟨Nat.le_of_ble_eq_true rfl, Nat.le_of_ble_eq_true rfl⟩ rfl hl.1 rfl (Nat.le_of_ble_eq_true rfl) zd_Node_init_31 ⟨by show _ + _ ≤ 45; omega, by show _ + _ ≤ 259; omega⟩) hI (fun H locs hI => ?_)
        obtain ⟨σ12, e13, h⟩ := zb_o h
        refine za_aast (o := (some σ.2)) hx hb hK hI (t := 2) (ci := 1) rfl ⟨_, _, rfl⟩ e13 zd_Node_init_34 (fun H locs hI => ?_)
        refine lv_iinc (k := 3) (v := (x3 + nI 1)) (lv' := [(3, .int (x3 + nI 1)), (0, .ref a0), (1, .int x1), (2, .ref a2)]) hx hb zd_Node_init_35 hl rfl rfl (Nat.le_of_ble_eq_true rfl) rfl (fun ls hl => ?_)
        refine lv_goto hx hb (tgt := 14) zd_Node_init_38 (by decide) ?_
        exact ih _ _ _ _ (by omega) (by omega) ls a0 x1 a2 (x3 + nI 1) σ12 hI (lv_sub hl [1, 2, 3, 0] rfl) h
  unfold zf_Node_init at h
  refine lv_aload_n hx hb zd_Node_init_0 rfl (lv_at hl 0 rfl) ?_
  refine W.objInit hx hb hown (hts _ zk_61) (hts _ zk_20) (hts _ zk_21) rfl (by rw [hml]; exact hl.1) rfl zd_Node_init_1 (Nat.le_of_ble_eq_true rfl) (Nat.le_of_ble_eq_true rfl) ?_
  refine W.eq (g2 := F0 m 4 ls []) rfl ?_
  refine lv_aload_n hx hb zd_Node_init_4 rfl (lv_at hl 0 rfl) ?_
  refine lv_iconst (v := nI 3) hx hb zd_Node_init_5 (by decide) ?_
  refine za_newq hx hb hts hown hK hI 2 rfl zk_62 (by decide) (N := 3) (by decide) (by decide) (Nat.le_of_ble_eq_true rfl) (Nat.le_of_ble_eq_true rfl) zd_Node_init_6 (fun H hI => ?_)
  obtain ⟨σ2, e1, h⟩ := zb_o h
  refine za_putF hx hb hts hown hnm hK hI zq_Node_11 e1 rfl rfl zd_Node_init_9 (fun H locs hI => ?_)
  refine lv_iconst (v := nI 0) hx hb zd_Node_init_12 (by decide) ?_
  refine lv_istore_n (lv' := [(3, .int (nI 0)), (0, .ref ay0), (1, .int xy1), (2, .ref ay2)]) hx hb zd_Node_init_13 rfl hl (Nat.le_of_ble_eq_true rfl) rfl (fun ls hl => ?_)
  exact B14 4 _ _ _ _ (by omega) (by omega) ls ay0 xy1 ay2 (nI 0) σ2 hI (lv_sub hl [1, 2, 3, 0] rfl) h

def zf_Ledger_bestFor_91 (k7 : Nat → Nat → Int32 → Int32 → Int32 → za_h → Option (Int32 × za_h)) (a0 : Nat) (a1 : Nat) (x2 : Int32) (x3 : Int32) (x4 : Int32) (σ : za_h) : Option (Int32 × za_h) :=
  k7 a0 a1 x2 x3 (x4 + nI 1) σ

def zf_Ledger_bestFor_82 (k7 : Nat → Nat → Int32 → Int32 → Int32 → za_h → Option (Int32 × za_h)) (a0 : Nat) (a1 : Nat) (x4 : Int32) (o5 : Option Nat) (σ : za_h) : Option (Int32 × za_h) :=
  (o5).bind fun u1 =>
  (zg_i σ u1 5 2).bind fun v4 =>
  zf_Ledger_bestFor_91 k7 a0 a1 x4 v4 x4 σ

def zf_Ledger_bestFor_57 (k7 : Nat → Nat → Int32 → Int32 → Int32 → za_h → Option (Int32 × za_h)) (a0 : Nat) (a1 : Nat) (x2 : Int32) (x3 : Int32) (x4 : Int32) (o5 : Option Nat) (xs0 : Int32) (σ : za_h) : Option (Int32 × za_h) :=
  if xs0 = 0 then
  (zf_Ledger_bestFor_91 k7 a0 a1 x2 x3 x4 σ)
  else
  (if x2 = (-1) then
  (zf_Ledger_bestFor_82 k7 a0 a1 x4 o5 σ)
  else
  ((o5).bind fun u3 =>
  (zg_i σ u3 5 2).bind fun v6 =>
  (zg_c σ a1 5).bind fun _ =>
  (zf_Offer_prefers a1 v6 x3 σ).bind fun (r8, σ9) =>
  if r8 = 0 then
  (zf_Ledger_bestFor_91 k7 a0 a1 x2 x3 x4 σ9)
  else
  (zf_Ledger_bestFor_82 k7 a0 a1 x4 (some u3) σ9)))

def zf_Ledger_bestFor_56 (k7 : Nat → Nat → Int32 → Int32 → Int32 → za_h → Option (Int32 × za_h)) (a0 : Nat) (a1 : Nat) (x2 : Int32) (x3 : Int32) (x4 : Int32) (o5 : Option Nat) (σ : za_h) : Option (Int32 × za_h) :=
  zf_Ledger_bestFor_57 k7 a0 a1 x2 x3 x4 o5 (nI 0) σ

def zf_Ledger_bestFor_7 : Nat → Nat → Nat → Int32 → Int32 → Int32 → za_h → Option (Int32 × za_h)
  | 0, _, _, _, _, _, _ => none
  | n + 1, a0, a1, x2, x3, x4, σ =>
  if (nI 8) ≤ x4 then
  (some (x2, σ))
  else
  ((zg_r σ a0 3 2).bind fun b3 =>
  (za_lq σ b3 5 x4).bind fun w4 =>
  match w4 with
  | none => (zf_Ledger_bestFor_56 (zf_Ledger_bestFor_7 n) a0 a1 x2 x3 x4 none σ)
  | some u7 => ((zg_i σ u7 5 1).bind fun v9 =>
  (zg_i σ a1 5 1).bind fun v11 =>
  if v9 = v11 then
  (zf_Ledger_bestFor_56 (zf_Ledger_bestFor_7 n) a0 a1 x2 x3 x4 (some u7) σ)
  else
  ((zg_i σ u7 5 2).bind fun v14 =>
  (zg_c σ a1 5).bind fun _ =>
  (zf_Offer_agreesTo a1 v14 σ).bind fun (r16, σ17) =>
  if r16 = 0 then
  (zf_Ledger_bestFor_56 (zf_Ledger_bestFor_7 n) a0 a1 x2 x3 x4 (some u7) σ17)
  else
  (zf_Ledger_bestFor_57 (zf_Ledger_bestFor_7 n) a0 a1 x2 x3 x4 (some u7) (nI 1) σ17))))

def zf_Ledger_bestFor (ay0 : Nat) (ay1 : Nat) (σ : za_h) : Option (Int32 × za_h) :=
  zf_Ledger_bestFor_7 9 ay0 ay1 (-1) (nI 0) (nI 0) σ
set_option maxRecDepth 100000 in
set_option maxHeartbeats 4000000 in
theorem zm_Ledger_bestFor {l : Launch} {D : va_G} {ca : Nat → ClassId} {n0 : Nat} {ay0 : Nat} {ay1 : Nat} {σ σ' : za_h} {r : Int32} (h : zf_Ledger_bestFor ay0 ay1 σ = some (r, σ')) : Met l zy_Ledger_bestFor (za_wy zy_Ledger_bestFor zc_Ledger_bestFor 7 (some .int)) { frames := 2, cells := 0, slots := 0, locals := 42 } (za_Pc D ca n0 [.ref ay0, .ref ay1] σ) (za_Qi D ca n0 r σ') 0 0 (za_A n0) := by
  refine za_met (by decide) (Nat.le_of_ble_eq_true rfl) ?_
  intro p e s m below meth c ls hx hb hml hr hlk hts hown hnm hK hI hl
  replace hown : s.vm.findClass zR_Ledger = some m.cls := hown
  replace hl : lv_has ls 7 [(0, .ref ay0), (1, .ref ay1)] := hl
  have B91 : ∀ (k7 : Nat → Nat → Int32 → Int32 → Int32 → za_h → Option (Int32 × za_h)), (∀ (H : Heap) (locs : List Loc) (ls : Array Slot) (a0 : Nat) (a1 : Nat) (x2 : Int32) (x3 : Int32) (x4 : Int32) (σ : za_h), za_I D ca n0 s σ H locs → lv_has ls 7 [(0, .ref a0), (1, .ref a1), (2, .int x2), (3, .int x3), (4, .int x4)] → k7 a0 a1 x2 x3 x4 σ = some (r, σ') → W p l e ({ frames := 2, cells := 0, slots := 0, locals := 42 }) s m ([.ref ay0, .ref ay1] : List Value).toArray below meth c H locs 0 0 (MQ below (za_Qi D ca n0 r σ') ([.ref ay0, .ref ay1] : List Value).toArray s 0 0 (za_A n0)) (F0 m 7 ls [])) → ∀ (H : Heap) (locs : List Loc) (ls : Array Slot) (a0 : Nat) (a1 : Nat) (x2 : Int32) (x3 : Int32) (x4 : Int32) (σ : za_h), za_I D ca n0 s σ H locs → lv_has ls 7 [(0, .ref a0), (1, .ref a1), (2, .int x2), (3, .int x3), (4, .int x4)] → zf_Ledger_bestFor_91 k7 a0 a1 x2 x3 x4 σ = some (r, σ') → W p l e ({ frames := 2, cells := 0, slots := 0, locals := 42 }) s m ([.ref ay0, .ref ay1] : List Value).toArray below meth c H locs 0 0 (MQ below (za_Qi D ca n0 r σ') ([.ref ay0, .ref ay1] : List Value).toArray s 0 0 (za_A n0)) (F0 m 91 ls []) := by
    intro k7 hk7 H locs ls a0 a1 x2 x3 x4 σ hI hl h
    unfold zf_Ledger_bestFor_91 at h
    refine lv_iinc (k := 4) (v := (x4 + nI 1)) (lv' := [(4, .int (x4 + nI 1)), (0, .ref a0), (1, .ref a1), (2, .int x2), (3, .int x3)]) hx hb zd_Ledger_bestFor_91 hl rfl rfl (Nat.le_of_ble_eq_true rfl) rfl (fun ls hl => ?_)
    refine lv_goto hx hb (tgt := 7) zd_Ledger_bestFor_94 (by decide) ?_
    exact hk7 _ _ ls a0 a1 x2 x3 (x4 + nI 1) σ hI (lv_sub hl [1, 2, 3, 4, 0] rfl) h
  have B82 : ∀ (k7 : Nat → Nat → Int32 → Int32 → Int32 → za_h → Option (Int32 × za_h)), (∀ (H : Heap) (locs : List Loc) (ls : Array Slot) (a0 : Nat) (a1 : Nat) (x2 : Int32) (x3 : Int32) (x4 : Int32) (σ : za_h), za_I D ca n0 s σ H locs → lv_has ls 7 [(0, .ref a0), (1, .ref a1), (2, .int x2), (3, .int x3), (4, .int x4)] → k7 a0 a1 x2 x3 x4 σ = some (r, σ') → W p l e ({ frames := 2, cells := 0, slots := 0, locals := 42 }) s m ([.ref ay0, .ref ay1] : List Value).toArray below meth c H locs 0 0 (MQ below (za_Qi D ca n0 r σ') ([.ref ay0, .ref ay1] : List Value).toArray s 0 0 (za_A n0)) (F0 m 7 ls [])) → ∀ (H : Heap) (locs : List Loc) (ls : Array Slot) (a0 : Nat) (a1 : Nat) (x4 : Int32) (o5 : Option Nat) (σ : za_h), za_I D ca n0 s σ H locs → lv_has ls 7 [(0, .ref a0), (1, .ref a1), (4, .int x4), (5, va_rf o5)] → zf_Ledger_bestFor_82 k7 a0 a1 x4 o5 σ = some (r, σ') → W p l e ({ frames := 2, cells := 0, slots := 0, locals := 42 }) s m ([.ref ay0, .ref ay1] : List Value).toArray below meth c H locs 0 0 (MQ below (za_Qi D ca n0 r σ') ([.ref ay0, .ref ay1] : List Value).toArray s 0 0 (za_A n0)) (F0 m 82 ls []) := by
    intro k7 hk7 H locs ls a0 a1 x4 o5 σ hI hl h
    unfold zf_Ledger_bestFor_82 at h
    refine lv_iload hx hb zd_Ledger_bestFor_82 (lv_at hl 2 rfl) ?_
    refine lv_istore_n (lv' := [(2, .int x4), (0, .ref a0), (1, .ref a1), (4, .int x4), (5, va_rf o5)]) hx hb zd_Ledger_bestFor_84 rfl hl (Nat.le_of_ble_eq_true rfl) rfl (fun ls hl => ?_)
    refine za_aload hx hb zd_Ledger_bestFor_85 (lv_at hl 4 rfl) ?_
    obtain ⟨u1, c2, h9⟩ := zb_o h
    clear h
    subst c2
    have h := h9
    clear h9
    obtain ⟨v4, e3, h⟩ := zb_o h
    refine za_geti hx hb hts hown hK hI zl_Ledger_72 e3 zd_Ledger_bestFor_87 ?_
    refine lv_istore_n (lv' := [(3, .int v4), (2, .int x4), (0, .ref a0), (1, .ref a1), (4, .int x4), (5, .ref u1)]) hx hb zd_Ledger_bestFor_90 rfl hl (Nat.le_of_ble_eq_true rfl) rfl (fun ls hl => ?_)
    exact B91 _ hk7 _ _ ls a0 a1 x4 v4 x4 σ hI (lv_sub hl [2, 3, 1, 0, 4] rfl) h
  have B57 : ∀ (k7 : Nat → Nat → Int32 → Int32 → Int32 → za_h → Option (Int32 × za_h)), (∀ (H : Heap) (locs : List Loc) (ls : Array Slot) (a0 : Nat) (a1 : Nat) (x2 : Int32) (x3 : Int32) (x4 : Int32) (σ : za_h), za_I D ca n0 s σ H locs → lv_has ls 7 [(0, .ref a0), (1, .ref a1), (2, .int x2), (3, .int x3), (4, .int x4)] → k7 a0 a1 x2 x3 x4 σ = some (r, σ') → W p l e ({ frames := 2, cells := 0, slots := 0, locals := 42 }) s m ([.ref ay0, .ref ay1] : List Value).toArray below meth c H locs 0 0 (MQ below (za_Qi D ca n0 r σ') ([.ref ay0, .ref ay1] : List Value).toArray s 0 0 (za_A n0)) (F0 m 7 ls [])) → ∀ (H : Heap) (locs : List Loc) (ls : Array Slot) (a0 : Nat) (a1 : Nat) (x2 : Int32) (x3 : Int32) (x4 : Int32) (o5 : Option Nat) (xs0 : Int32) (σ : za_h), za_I D ca n0 s σ H locs → lv_has ls 7 [(0, .ref a0), (1, .ref a1), (2, .int x2), (3, .int x3), (4, .int x4), (5, va_rf o5)] → zf_Ledger_bestFor_57 k7 a0 a1 x2 x3 x4 o5 xs0 σ = some (r, σ') → W p l e ({ frames := 2, cells := 0, slots := 0, locals := 42 }) s m ([.ref ay0, .ref ay1] : List Value).toArray below meth c H locs 0 0 (MQ below (za_Qi D ca n0 r σ') ([.ref ay0, .ref ay1] : List Value).toArray s 0 0 (za_A n0)) (F0 m 57 ls [.int xs0]) := by
    intro k7 hk7 H locs ls a0 a1 x2 x3 x4 o5 xs0 σ hI hl h
    unfold zf_Ledger_bestFor_57 at h
    refine lv_istore (lv' := [(6, .int xs0), (0, .ref a0), (1, .ref a1), (2, .int x2), (3, .int x3), (4, .int x4), (5, va_rf o5)]) hx hb zd_Ledger_bestFor_57 hl (Nat.le_of_ble_eq_true rfl) (by simp [za_rfc]) (fun ls hl => ?_)
    refine lv_iload hx hb zd_Ledger_bestFor_59 (lv_at hl 0 rfl) ?_
    refine lv_if_eq hx hb (tgt := 91) zd_Ledger_bestFor_61 (by decide) (fun c1 => ?_) (fun c1 => ?_)
    · replace h := zb_t c1 h
      exact B91 _ hk7 _ _ ls a0 a1 x2 x3 x4 σ hI (lv_sub hl [1, 2, 3, 4, 5] rfl) h
    · replace h := zb_f c1 h
      refine lv_iload_n hx hb zd_Ledger_bestFor_64 rfl (lv_at hl 3 rfl) ?_
      refine lv_iconst (v := -1) hx hb zd_Ledger_bestFor_65 (by decide) ?_
      refine lv_icmp_eq hx hb (tgt := 82) zd_Ledger_bestFor_66 (by decide) (fun c2 => ?_) (fun c2 => ?_)
      · replace h := zb_t c2 h
        exact B82 _ hk7 _ _ ls a0 a1 x4 o5 σ hI (lv_sub hl [1, 2, 5, 6] rfl) h
      · replace h := zb_f c2 h
        refine lv_aload_n hx hb zd_Ledger_bestFor_69 rfl (lv_at hl 2 rfl) ?_
        refine za_aload hx hb zd_Ledger_bestFor_70 (lv_at hl 6 rfl) ?_
        obtain ⟨u3, c4, h9⟩ := zb_o h
        clear h
        subst c4
        have h := h9
        clear h9
        obtain ⟨v6, e5, h⟩ := zb_o h
        refine za_geti hx hb hts hown hK hI zl_Ledger_72 e5 zd_Ledger_bestFor_72 ?_
        refine lv_iload_n hx hb zd_Ledger_bestFor_75 rfl (lv_at hl 4 rfl) ?_
        obtain ⟨_, g7, h⟩ := zb_o h
        obtain ⟨⟨r8, σ9⟩, e10, h⟩ := zb_o h
        refine za_calli (za_runV hx hb hml hown hts hK hI g7 (zm_Offer_prefers e10) zj_Ledger_79 ⟨rfl, rfl⟩ ⟨Nat.le_of_ble_eq_true rfl, Nat.le_of_ble_eq_true rfl⟩ rfl hl.1 rfl (Nat.le_of_ble_eq_true rfl) zd_Ledger_bestFor_76 ⟨Nat.le_of_ble_eq_true rfl, Nat.le_of_ble_eq_true rfl⟩) hI (fun H locs hI => ?_)
        refine lv_if_eq hx hb (tgt := 91) zd_Ledger_bestFor_79 (by decide) (fun c11 => ?_) (fun c11 => ?_)
        · replace h := zb_t c11 h
          exact B91 _ hk7 _ _ ls a0 a1 x2 x3 x4 σ9 hI (lv_sub hl [1, 2, 3, 4, 5] rfl) h
        · replace h := zb_f c11 h
          exact B82 _ hk7 _ _ ls a0 a1 x4 (some u3) σ9 hI (lv_sub hl [1, 2, 5, 6] rfl) h
  have B56 : ∀ (k7 : Nat → Nat → Int32 → Int32 → Int32 → za_h → Option (Int32 × za_h)), (∀ (H : Heap) (locs : List Loc) (ls : Array Slot) (a0 : Nat) (a1 : Nat) (x2 : Int32) (x3 : Int32) (x4 : Int32) (σ : za_h), za_I D ca n0 s σ H locs → lv_has ls 7 [(0, .ref a0), (1, .ref a1), (2, .int x2), (3, .int x3), (4, .int x4)] → k7 a0 a1 x2 x3 x4 σ = some (r, σ') → W p l e ({ frames := 2, cells := 0, slots := 0, locals := 42 }) s m ([.ref ay0, .ref ay1] : List Value).toArray below meth c H locs 0 0 (MQ below (za_Qi D ca n0 r σ') ([.ref ay0, .ref ay1] : List Value).toArray s 0 0 (za_A n0)) (F0 m 7 ls [])) → ∀ (H : Heap) (locs : List Loc) (ls : Array Slot) (a0 : Nat) (a1 : Nat) (x2 : Int32) (x3 : Int32) (x4 : Int32) (o5 : Option Nat) (σ : za_h), za_I D ca n0 s σ H locs → lv_has ls 7 [(0, .ref a0), (1, .ref a1), (2, .int x2), (3, .int x3), (4, .int x4), (5, va_rf o5)] → zf_Ledger_bestFor_56 k7 a0 a1 x2 x3 x4 o5 σ = some (r, σ') → W p l e ({ frames := 2, cells := 0, slots := 0, locals := 42 }) s m ([.ref ay0, .ref ay1] : List Value).toArray below meth c H locs 0 0 (MQ below (za_Qi D ca n0 r σ') ([.ref ay0, .ref ay1] : List Value).toArray s 0 0 (za_A n0)) (F0 m 56 ls []) := by
    intro k7 hk7 H locs ls a0 a1 x2 x3 x4 o5 σ hI hl h
    unfold zf_Ledger_bestFor_56 at h
    refine lv_iconst (v := nI 0) hx hb zd_Ledger_bestFor_56 (by decide) ?_
    exact B57 _ hk7 _ _ ls a0 a1 x2 x3 x4 o5 (nI 0) σ hI (lv_sub hl [0, 1, 2, 3, 4, 5] rfl) h
  have B7 : ∀ n : Nat, ∀ (H : Heap) (locs : List Loc) (ls : Array Slot) (a0 : Nat) (a1 : Nat) (x2 : Int32) (x3 : Int32) (x4 : Int32) (σ : za_h), za_I D ca n0 s σ H locs → lv_has ls 7 [(0, .ref a0), (1, .ref a1), (2, .int x2), (3, .int x3), (4, .int x4)] → zf_Ledger_bestFor_7 n a0 a1 x2 x3 x4 σ = some (r, σ') → W p l e ({ frames := 2, cells := 0, slots := 0, locals := 42 }) s m ([.ref ay0, .ref ay1] : List Value).toArray below meth c H locs 0 0 (MQ below (za_Qi D ca n0 r σ') ([.ref ay0, .ref ay1] : List Value).toArray s 0 0 (za_A n0)) (F0 m 7 ls []) := by
    intro n
    induction n with
    | zero => intro H locs ls a0 a1 x2 x3 x4 σ hI hl h; rw [zf_Ledger_bestFor_7] at h; cases h
    | succ n ih =>
      intro H locs ls a0 a1 x2 x3 x4 σ hI hl h
      rw [zf_Ledger_bestFor_7] at h
      refine lv_iload hx hb zd_Ledger_bestFor_7 (lv_at hl 4 rfl) ?_
      refine lv_bipush (v := nI 8) hx hb zd_Ledger_bestFor_9 (by decide) ?_
      refine lv_icmp_ge hx hb (tgt := 97) zd_Ledger_bestFor_11 (by decide) (fun c1 => ?_) (fun c1 => ?_)
      · replace h := zb_t c1 h
        refine lv_iload_n hx hb zd_Ledger_bestFor_97 rfl (lv_at hl 2 rfl) ?_
        exact za_iret hx hb hr hlk hI h (Nat.le_of_ble_eq_true rfl) (Nat.le_of_ble_eq_true rfl) zd_Ledger_bestFor_98
      · replace h := zb_f c1 h
        refine lv_aload_n hx hb zd_Ledger_bestFor_14 rfl (lv_at hl 0 rfl) ?_
        obtain ⟨b3, e2, h⟩ := zb_o h
        refine za_getr hx hb hts hown hK hI zl_Ledger_20 e2 zd_Ledger_bestFor_15 ?_
        refine lv_iload hx hb zd_Ledger_bestFor_18 (lv_at hl 4 rfl) ?_
        obtain ⟨w4, e5, h⟩ := zb_o h
        refine za_aald hx hb hK hI (t := 5) rfl e5 zd_Ledger_bestFor_20 ?_
        refine za_astore (lv' := [(5, va_rf w4), (0, .ref a0), (1, .ref a1), (2, .int x2), (3, .int x3), (4, .int x4)]) hx hb zd_Ledger_bestFor_21 hl (Nat.le_of_ble_eq_true rfl) rfl (fun ls hl => ?_)
        refine za_aload hx hb zd_Ledger_bestFor_23 (lv_at hl 0 rfl) ?_
        refine za_ifnull hx hb (tgt := 56) zd_Ledger_bestFor_25 (by decide) (fun c6 => ?_) (fun u7 c6 => ?_)
        · subst c6
          exact B56 _ ih _ _ ls a0 a1 x2 x3 x4 none σ hI (lv_sub hl [1, 2, 3, 4, 5, 0] rfl) h
        · subst c6
          refine lv_aload hx hb zd_Ledger_bestFor_28 (lv_at hl 0 rfl) ?_
          obtain ⟨v9, e8, h⟩ := zb_o h
          refine za_geti hx hb hts hown hK hI zl_Ledger_69 e8 zd_Ledger_bestFor_30 ?_
          refine lv_aload_n hx hb zd_Ledger_bestFor_33 rfl (lv_at hl 2 rfl) ?_
          obtain ⟨v11, e10, h⟩ := zb_o h
          refine za_geti hx hb hts hown hK hI zl_Ledger_69 e10 zd_Ledger_bestFor_34 ?_
          refine lv_icmp_eq hx hb (tgt := 56) zd_Ledger_bestFor_37 (by decide) (fun c12 => ?_) (fun c12 => ?_)
          · replace h := zb_t c12 h
            exact B56 _ ih _ _ ls a0 a1 x2 x3 x4 (some u7) σ hI (lv_sub hl [1, 2, 3, 4, 5, 0] rfl) h
          · replace h := zb_f c12 h
            refine lv_aload_n hx hb zd_Ledger_bestFor_40 rfl (lv_at hl 2 rfl) ?_
            refine lv_aload hx hb zd_Ledger_bestFor_41 (lv_at hl 0 rfl) ?_
            obtain ⟨v14, e13, h⟩ := zb_o h
            refine za_geti hx hb hts hown hK hI zl_Ledger_72 e13 zd_Ledger_bestFor_43 ?_
            obtain ⟨_, g15, h⟩ := zb_o h
            obtain ⟨⟨r16, σ17⟩, e18, h⟩ := zb_o h
            refine za_calli (za_runV hx hb hml hown hts hK hI g15 (zm_Offer_agreesTo e18) zj_Ledger_75 ⟨rfl, rfl⟩ ⟨Nat.le_of_ble_eq_true rfl, Nat.le_of_ble_eq_true rfl⟩ rfl hl.1 rfl (Nat.le_of_ble_eq_true rfl) zd_Ledger_bestFor_46 ⟨Nat.le_of_ble_eq_true rfl, Nat.le_of_ble_eq_true rfl⟩) hI (fun H locs hI => ?_)
            refine lv_if_eq hx hb (tgt := 56) zd_Ledger_bestFor_49 (by decide) (fun c19 => ?_) (fun c19 => ?_)
            · replace h := zb_t c19 h
              exact B56 _ ih _ _ ls a0 a1 x2 x3 x4 (some u7) σ17 hI (lv_sub hl [1, 2, 3, 4, 5, 0] rfl) h
            · replace h := zb_f c19 h
              refine lv_iconst (v := nI 1) hx hb zd_Ledger_bestFor_52 (by decide) ?_
              refine lv_goto hx hb (tgt := 57) zd_Ledger_bestFor_53 (by decide) ?_
              exact B57 _ ih _ _ ls a0 a1 x2 x3 x4 (some u7) (nI 1) σ17 hI (lv_sub hl [1, 2, 3, 4, 5, 0] rfl) h
  unfold zf_Ledger_bestFor at h
  refine lv_iconst (v := -1) hx hb zd_Ledger_bestFor_0 (by decide) ?_
  refine lv_istore_n (lv' := [(2, .int (-1)), (0, .ref ay0), (1, .ref ay1)]) hx hb zd_Ledger_bestFor_1 rfl hl (Nat.le_of_ble_eq_true rfl) rfl (fun ls hl => ?_)
  refine lv_iconst (v := nI 0) hx hb zd_Ledger_bestFor_2 (by decide) ?_
  refine lv_istore_n (lv' := [(3, .int (nI 0)), (2, .int (-1)), (0, .ref ay0), (1, .ref ay1)]) hx hb zd_Ledger_bestFor_3 rfl hl (Nat.le_of_ble_eq_true rfl) rfl (fun ls hl => ?_)
  refine lv_iconst (v := nI 0) hx hb zd_Ledger_bestFor_4 (by decide) ?_
  refine lv_istore (lv' := [(4, .int (nI 0)), (3, .int (nI 0)), (2, .int (-1)), (0, .ref ay0), (1, .ref ay1)]) hx hb zd_Ledger_bestFor_5 hl (Nat.le_of_ble_eq_true rfl) rfl (fun ls hl => ?_)
  exact B7 9 _ _ ls ay0 ay1 (-1) (nI 0) (nI 0) σ hI (lv_sub hl [3, 4, 2, 1, 0] rfl) h

def zf_Ledger_canServe_48 (xs0 : Int32) (σ : za_h) : Option (Int32 × za_h) :=
  if xs0 = 0 ∨ xs0 = 1 then some (xs0, σ) else none

def zf_Ledger_canServe (ay0 : Nat) (ay1 : Nat) (σ : za_h) : Option (Int32 × za_h) :=
  (zg_c σ ay1 5).bind fun _ =>
  (zf_Offer_sells ay1 σ).bind fun (r2, σ3) =>
  if r2 = 0 then
  ((zg_r σ3 ay0 3 0).bind fun b7 =>
  (zg_i σ3 ay1 5 0).bind fun v9 =>
  (za_ld σ3 b7 0 v9).bind fun v10 =>
  (zg_i σ3 ay1 5 2).bind fun v13 =>
  if v10 < v13 then
  (zf_Ledger_canServe_48 (nI 0) σ3)
  else
  (zf_Ledger_canServe_48 (nI 1) σ3))
  else
  ((zg_r σ3 ay0 3 1).bind fun b16 =>
  (zg_i σ3 ay1 5 0).bind fun v18 =>
  (za_ld σ3 b16 0 v18).bind fun v19 =>
  if v19 ≤ 0 then
  (zf_Ledger_canServe_48 (nI 0) σ3)
  else
  (zf_Ledger_canServe_48 (nI 1) σ3))
set_option maxRecDepth 100000 in
set_option maxHeartbeats 4000000 in
theorem zm_Ledger_canServe {l : Launch} {D : va_G} {ca : Nat → ClassId} {n0 : Nat} {ay0 : Nat} {ay1 : Nat} {σ σ' : za_h} {r : Int32} (h : zf_Ledger_canServe ay0 ay1 σ = some (r, σ')) : Met l zy_Ledger_canServe (za_wy zy_Ledger_canServe zc_Ledger_canServe 2 (some .boolean)) { frames := 1, cells := 0, slots := 0, locals := 20 } (za_Pc D ca n0 [.ref ay0, .ref ay1] σ) (za_Qi D ca n0 r σ') 0 0 (za_A n0) := by
  refine za_met (by decide) (Nat.le_of_ble_eq_true rfl) ?_
  intro p e s m below meth c ls hx hb hml hr hlk hts hown hnm hK hI hl
  replace hown : s.vm.findClass zR_Ledger = some m.cls := hown
  replace hl : lv_has ls 2 [(0, .ref ay0), (1, .ref ay1)] := hl
  have B48 : ∀ (H : Heap) (locs : List Loc) (ls : Array Slot) (xs0 : Int32) (σ : za_h), za_I D ca n0 s σ H locs → lv_has ls 2 [] → zf_Ledger_canServe_48 xs0 σ = some (r, σ') → W p l e ({ frames := 1, cells := 0, slots := 0, locals := 20 }) s m ([.ref ay0, .ref ay1] : List Value).toArray below meth c H locs 0 0 (MQ below (za_Qi D ca n0 r σ') ([.ref ay0, .ref ay1] : List Value).toArray s 0 0 (za_A n0)) (F0 m 48 ls [.int xs0]) := by
    intro H locs ls xs0 σ hI hl h
    unfold zf_Ledger_canServe_48 at h
    obtain ⟨g1, h⟩ := zb_g h
    exact za_zret hx hb hr hlk hI g1 h (Nat.le_of_ble_eq_true rfl) (Nat.le_of_ble_eq_true rfl) zd_Ledger_canServe_48
  unfold zf_Ledger_canServe at h
  refine lv_aload_n hx hb zd_Ledger_canServe_0 rfl (lv_at hl 1 rfl) ?_
  obtain ⟨_, g1, h⟩ := zb_o h
  obtain ⟨⟨r2, σ3⟩, e4, h⟩ := zb_o h
  refine za_calli (za_runV hx hb hml hown hts hK hI g1 (zm_Offer_sells e4) zj_Ledger_83 ⟨rfl, rfl⟩ ⟨Nat.le_of_ble_eq_true rfl, Nat.le_of_ble_eq_true rfl⟩ rfl hl.1 rfl (Nat.le_of_ble_eq_true rfl) zd_Ledger_canServe_1 ⟨Nat.le_of_ble_eq_true rfl, Nat.le_of_ble_eq_true rfl⟩) hI (fun H locs hI => ?_)
  refine lv_if_eq hx hb (tgt := 27) zd_Ledger_canServe_4 (by decide) (fun c5 => ?_) (fun c5 => ?_)
  · replace h := zb_t c5 h
    refine lv_aload_n hx hb zd_Ledger_canServe_27 rfl (lv_at hl 0 rfl) ?_
    obtain ⟨b7, e6, h⟩ := zb_o h
    refine za_getr hx hb hts hown hK hI zl_Ledger_9 e6 zd_Ledger_canServe_28 ?_
    refine lv_aload_n hx hb zd_Ledger_canServe_31 rfl (lv_at hl 1 rfl) ?_
    obtain ⟨v9, e8, h⟩ := zb_o h
    refine za_geti hx hb hts hown hK hI zl_Ledger_87 e8 zd_Ledger_canServe_32 ?_
    obtain ⟨v10, e11, h⟩ := zb_o h
    refine za_iald hx hb hK hI e11 zd_Ledger_canServe_35 ?_
    refine lv_aload_n hx hb zd_Ledger_canServe_36 rfl (lv_at hl 1 rfl) ?_
    obtain ⟨v13, e12, h⟩ := zb_o h
    refine za_geti hx hb hts hown hK hI zl_Ledger_72 e12 zd_Ledger_canServe_37 ?_
    refine lv_icmp_lt hx hb (tgt := 47) zd_Ledger_canServe_40 (by decide) (fun c14 => ?_) (fun c14 => ?_)
    · replace h := zb_t c14 h
      refine lv_iconst (v := nI 0) hx hb zd_Ledger_canServe_47 (by decide) ?_
      exact B48 _ _ ls (nI 0) σ3 hI (lv_sub hl [] rfl) h
    · replace h := zb_f c14 h
      refine lv_iconst (v := nI 1) hx hb zd_Ledger_canServe_43 (by decide) ?_
      refine lv_goto hx hb (tgt := 48) zd_Ledger_canServe_44 (by decide) ?_
      exact B48 _ _ ls (nI 1) σ3 hI (lv_sub hl [] rfl) h
  · replace h := zb_f c5 h
    refine lv_aload_n hx hb zd_Ledger_canServe_7 rfl (lv_at hl 0 rfl) ?_
    obtain ⟨b16, e15, h⟩ := zb_o h
    refine za_getr hx hb hts hown hK hI zl_Ledger_15 e15 zd_Ledger_canServe_8 ?_
    refine lv_aload_n hx hb zd_Ledger_canServe_11 rfl (lv_at hl 1 rfl) ?_
    obtain ⟨v18, e17, h⟩ := zb_o h
    refine za_geti hx hb hts hown hK hI zl_Ledger_87 e17 zd_Ledger_canServe_12 ?_
    obtain ⟨v19, e20, h⟩ := zb_o h
    refine za_iald hx hb hK hI e20 zd_Ledger_canServe_15 ?_
    refine lv_if_le hx hb (tgt := 23) zd_Ledger_canServe_16 (by decide) (fun c21 => ?_) (fun c21 => ?_)
    · replace h := zb_t c21 h
      refine lv_iconst (v := nI 0) hx hb zd_Ledger_canServe_23 (by decide) ?_
      refine lv_goto hx hb (tgt := 48) zd_Ledger_canServe_24 (by decide) ?_
      exact B48 _ _ ls (nI 0) σ3 hI (lv_sub hl [] rfl) h
    · replace h := zb_f c21 h
      refine lv_iconst (v := nI 1) hx hb zd_Ledger_canServe_19 (by decide) ?_
      refine lv_goto hx hb (tgt := 48) zd_Ledger_canServe_20 (by decide) ?_
      exact B48 _ _ ls (nI 1) σ3 hI (lv_sub hl [] rfl) h

def zf_Ledger_move (ay0 : Nat) (ay1 : Nat) (xy2 : Int32) (xy3 : Int32) (xy4 : Int32) (σ : za_h) : Option (Unit × za_h) :=
  (za_ld σ ay1 0 xy2).bind fun v1 =>
  (za_st σ ay1 0 xy2 (v1 - xy4)).bind fun σ3 =>
  (za_ld σ3 ay1 0 xy3).bind fun v5 =>
  (za_st σ3 ay1 0 xy3 (v5 + xy4)).bind fun σ7 =>
  some ((), σ7)
set_option maxRecDepth 100000 in
set_option maxHeartbeats 4000000 in
theorem zm_Ledger_move {l : Launch} {D : va_G} {ca : Nat → ClassId} {n0 : Nat} {ay0 : Nat} {ay1 : Nat} {xy2 : Int32} {xy3 : Int32} {xy4 : Int32} {σ σ' : za_h} {r : Unit} (h : zf_Ledger_move ay0 ay1 xy2 xy3 xy4 σ = some (r, σ')) : Met l zy_Ledger_move (za_wy zy_Ledger_move zc_Ledger_move 5 none) { frames := 0, cells := 0, slots := 0, locals := 0 } (za_Pc D ca n0 [.ref ay0, .ref ay1, .int xy2, .int xy3, .int xy4] σ) (za_Qv D ca n0 r σ') 0 0 (za_A n0) := by
  refine za_met (by decide) (Nat.le_of_ble_eq_true rfl) ?_
  intro p e s m below meth c ls hx hb hml hr hlk hts hown hnm hK hI hl
  replace hown : s.vm.findClass zR_Ledger = some m.cls := hown
  replace hl : lv_has ls 5 [(0, .ref ay0), (1, .ref ay1), (2, .int xy2), (3, .int xy3), (4, .int xy4)] := hl
  unfold zf_Ledger_move at h
  refine lv_aload_n hx hb zd_Ledger_move_0 rfl (lv_at hl 1 rfl) ?_
  refine lv_iload_n hx hb zd_Ledger_move_1 rfl (lv_at hl 2 rfl) ?_
  refine lv_dup2_11 hx hb zd_Ledger_move_2 rfl rfl ?_
  obtain ⟨v1, e2, h⟩ := zb_o h
  refine za_iald hx hb hK hI e2 zd_Ledger_move_3 ?_
  refine lv_iload hx hb zd_Ledger_move_4 (lv_at hl 4 rfl) ?_
  refine lv_isub hx hb zd_Ledger_move_6 ?_
  obtain ⟨σ3, e4, h⟩ := zb_o h
  refine za_iast hx hb hK hI e4 zd_Ledger_move_7 (fun H locs hI => ?_)
  refine lv_aload_n hx hb zd_Ledger_move_8 rfl (lv_at hl 1 rfl) ?_
  refine lv_iload_n hx hb zd_Ledger_move_9 rfl (lv_at hl 3 rfl) ?_
  refine lv_dup2_11 hx hb zd_Ledger_move_10 rfl rfl ?_
  obtain ⟨v5, e6, h⟩ := zb_o h
  refine za_iald hx hb hK hI e6 zd_Ledger_move_11 ?_
  refine lv_iload hx hb zd_Ledger_move_12 (lv_at hl 4 rfl) ?_
  refine lv_iadd hx hb zd_Ledger_move_14 ?_
  obtain ⟨σ7, e8, h⟩ := zb_o h
  refine za_iast hx hb hK hI e8 zd_Ledger_move_15 (fun H locs hI => ?_)
  exact za_vret hx hb hr hlk hI h (Nat.le_of_ble_eq_true rfl) (Nat.le_of_ble_eq_true rfl) zd_Ledger_move_16

def zf_Ledger_takeOut_12 : Nat → Nat → Int32 → za_h → Option (Unit × za_h)
  | 0, _, _, _ => none
  | n + 1, a0, x2, σ =>
  (zg_i σ a0 3 3).bind fun v2 =>
  if v2 ≤ x2 then
  ((zg_r σ a0 3 2).bind fun b5 =>
  (zg_i σ a0 3 3).bind fun v7 =>
  (za_sq σ b5 5 5 v7 none).bind fun σ8 =>
  some ((), σ8))
  else
  ((zg_r σ a0 3 2).bind fun b11 =>
  (zg_r σ a0 3 2).bind fun b13 =>
  (za_lq σ b13 5 (x2 + (nI 1))).bind fun w14 =>
  (za_sq σ b11 5 5 x2 w14).bind fun σ16 =>
  zf_Ledger_takeOut_12 n a0 (x2 + nI 1) σ16)

def zf_Ledger_takeOut (ay0 : Nat) (xy1 : Int32) (σ : za_h) : Option (Unit × za_h) :=
  (zg_i σ ay0 3 3).bind fun v2 =>
  (zp_f σ ay0 3 3 (.int (v2 - (nI 1)))).bind fun σ4 =>
  zf_Ledger_takeOut_12 9 ay0 xy1 σ4
set_option maxRecDepth 100000 in
set_option maxHeartbeats 4000000 in
theorem zm_Ledger_takeOut {l : Launch} {D : va_G} {ca : Nat → ClassId} {n0 : Nat} {ay0 : Nat} {xy1 : Int32} {σ σ' : za_h} {r : Unit} (h : zf_Ledger_takeOut ay0 xy1 σ = some (r, σ')) : Met l zy_Ledger_takeOut (za_wy zy_Ledger_takeOut zc_Ledger_takeOut 3 none) { frames := 0, cells := 0, slots := 0, locals := 0 } (za_Pc D ca n0 [.ref ay0, .int xy1] σ) (za_Qv D ca n0 r σ') 0 0 (za_A n0) := by
  refine za_met (by decide) (Nat.le_of_ble_eq_true rfl) ?_
  intro p e s m below meth c ls hx hb hml hr hlk hts hown hnm hK hI hl
  replace hown : s.vm.findClass zR_Ledger = some m.cls := hown
  replace hl : lv_has ls 3 [(0, .ref ay0), (1, .int xy1)] := hl
  have B12 : ∀ n : Nat, ∀ (H : Heap) (locs : List Loc) (ls : Array Slot) (a0 : Nat) (x2 : Int32) (σ : za_h), za_I D ca n0 s σ H locs → lv_has ls 3 [(0, .ref a0), (2, .int x2)] → zf_Ledger_takeOut_12 n a0 x2 σ = some (r, σ') → W p l e ({ frames := 0, cells := 0, slots := 0, locals := 0 }) s m ([.ref ay0, .int xy1] : List Value).toArray below meth c H locs 0 0 (MQ below (za_Qv D ca n0 r σ') ([.ref ay0, .int xy1] : List Value).toArray s 0 0 (za_A n0)) (F0 m 12 ls []) := by
    intro n
    induction n with
    | zero => intro H locs ls a0 x2 σ hI hl h; rw [zf_Ledger_takeOut_12] at h; cases h
    | succ n ih =>
      intro H locs ls a0 x2 σ hI hl h
      rw [zf_Ledger_takeOut_12] at h
      refine lv_iload_n hx hb zd_Ledger_takeOut_12 rfl (lv_at hl 1 rfl) ?_
      refine lv_aload_n hx hb zd_Ledger_takeOut_13 rfl (lv_at hl 0 rfl) ?_
      obtain ⟨v2, e1, h⟩ := zb_o h
      refine za_geti hx hb hts hown hK hI zl_Ledger_66 e1 zd_Ledger_takeOut_14 ?_
      refine lv_icmp_ge hx hb (tgt := 40) zd_Ledger_takeOut_17 (by decide) (fun c3 => ?_) (fun c3 => ?_)
      · replace h := zb_t c3 h
        refine lv_aload_n hx hb zd_Ledger_takeOut_40 rfl (lv_at hl 0 rfl) ?_
        obtain ⟨b5, e4, h⟩ := zb_o h
        refine za_getr hx hb hts hown hK hI zl_Ledger_20 e4 zd_Ledger_takeOut_41 ?_
        refine lv_aload_n hx hb zd_Ledger_takeOut_44 rfl (lv_at hl 0 rfl) ?_
        obtain ⟨v7, e6, h⟩ := zb_o h
        refine za_geti hx hb hts hown hK hI zl_Ledger_66 e6 zd_Ledger_takeOut_45 ?_
        refine lv_null hx hb zd_Ledger_takeOut_48 ?_
        obtain ⟨σ8, e9, h⟩ := zb_o h
        refine za_aast (o := none) hx hb hK hI (t := 5) (ci := 5) rfl ⟨_, _, rfl⟩ e9 zd_Ledger_takeOut_49 (fun H locs hI => ?_)
        exact za_vret hx hb hr hlk hI h (Nat.le_of_ble_eq_true rfl) (Nat.le_of_ble_eq_true rfl) zd_Ledger_takeOut_50
      · replace h := zb_f c3 h
        refine lv_aload_n hx hb zd_Ledger_takeOut_20 rfl (lv_at hl 0 rfl) ?_
        obtain ⟨b11, e10, h⟩ := zb_o h
        refine za_getr hx hb hts hown hK hI zl_Ledger_20 e10 zd_Ledger_takeOut_21 ?_
        refine lv_iload_n hx hb zd_Ledger_takeOut_24 rfl (lv_at hl 1 rfl) ?_
        refine lv_aload_n hx hb zd_Ledger_takeOut_25 rfl (lv_at hl 0 rfl) ?_
        obtain ⟨b13, e12, h⟩ := zb_o h
        refine za_getr hx hb hts hown hK hI zl_Ledger_20 e12 zd_Ledger_takeOut_26 ?_
        refine lv_iload_n hx hb zd_Ledger_takeOut_29 rfl (lv_at hl 1 rfl) ?_
        refine lv_iconst (v := nI 1) hx hb zd_Ledger_takeOut_30 (by decide) ?_
        refine lv_iadd hx hb zd_Ledger_takeOut_31 ?_
        obtain ⟨w14, e15, h⟩ := zb_o h
        refine za_aald hx hb hK hI (t := 5) rfl e15 zd_Ledger_takeOut_32 ?_
        obtain ⟨σ16, e17, h⟩ := zb_o h
        refine za_aast (o := w14) hx hb hK hI (t := 5) (ci := 5) rfl ⟨_, _, rfl⟩ e17 zd_Ledger_takeOut_33 (fun H locs hI => ?_)
        refine lv_iinc (k := 1) (v := (x2 + nI 1)) (lv' := [(2, .int (x2 + nI 1)), (0, .ref a0)]) hx hb zd_Ledger_takeOut_34 hl rfl rfl (Nat.le_of_ble_eq_true rfl) rfl (fun ls hl => ?_)
        refine lv_goto hx hb (tgt := 12) zd_Ledger_takeOut_37 (by decide) ?_
        exact ih _ _ ls a0 (x2 + nI 1) σ16 hI (lv_sub hl [1, 0] rfl) h
  unfold zf_Ledger_takeOut at h
  refine lv_aload_n hx hb zd_Ledger_takeOut_0 rfl (lv_at hl 0 rfl) ?_
  refine lv_dup hx hb zd_Ledger_takeOut_1 rfl ?_
  obtain ⟨v2, e1, h⟩ := zb_o h
  refine za_geti hx hb hts hown hK hI zl_Ledger_66 e1 zd_Ledger_takeOut_2 ?_
  refine lv_iconst (v := nI 1) hx hb zd_Ledger_takeOut_5 (by decide) ?_
  refine lv_isub hx hb zd_Ledger_takeOut_6 ?_
  obtain ⟨σ4, e3, h⟩ := zb_o h
  refine za_put hx hb hts hown hK hI zl_Ledger_66 e3 rfl rfl zd_Ledger_takeOut_7 (fun H locs hI => ?_)
  refine lv_iload_n hx hb zd_Ledger_takeOut_10 rfl (lv_at hl 1 rfl) ?_
  refine lv_istore_n (lv' := [(2, .int xy1), (0, .ref ay0), (1, .int xy1)]) hx hb zd_Ledger_takeOut_11 rfl hl (Nat.le_of_ble_eq_true rfl) rfl (fun ls hl => ?_)
  exact B12 9 _ _ ls ay0 xy1 σ4 hI (lv_sub hl [1, 0] rfl) h

def zf_Ledger_tradeWith_19  (σ : za_h) : Option (Int32 × za_h) :=
  some ((nI 0), σ)

def zf_Ledger_tradeWith_190  (σ : za_h) : Option (Int32 × za_h) :=
  some ((nI 1), σ)

def zf_Ledger_tradeWith_185 (a0 : Nat) (x2 : Int32) (σ : za_h) : Option (Int32 × za_h) :=
  (zg_c σ a0 3).bind fun _ =>
  (zf_Ledger_takeOut a0 x2 σ).bind fun (_, σ3) =>
  zf_Ledger_tradeWith_190 σ3

def zf_Ledger_tradeWith_118 (a0 : Nat) (a1 : Nat) (x2 : Int32) (a3 : Nat) (x4 : Int32) (x5 : Int32) (x7 : Int32) (σ : za_h) : Option (Int32 × za_h) :=
  (zg_i σ a1 5 3).bind fun v2 =>
  (zp_f σ a1 5 3 (.int (v2 - x7))).bind fun σ4 =>
  (zg_i σ4 a3 5 3).bind fun v6 =>
  (zp_f σ4 a3 5 3 (.int (v6 - x7))).bind fun σ8 =>
  (zg_r σ8 a0 3 1).bind fun b10 =>
  (zg_c σ8 a0 3).bind fun _ =>
  (zf_Ledger_move a0 b10 x4 x5 x7 σ8).bind fun (_, σ13) =>
  (zg_r σ13 a0 3 0).bind fun b16 =>
  (zg_i σ13 a3 5 2).bind fun v18 =>
  (zg_c σ13 a0 3).bind fun _ =>
  (zf_Ledger_move a0 b16 x5 x4 (x7 * v18) σ13).bind fun (_, σ21) =>
  if x7 = 0 then
  (zf_Ledger_tradeWith_185 a0 x2 σ21)
  else
  ((zg_i σ21 a3 5 3).bind fun v25 =>
  if v25 = 0 then
  (zf_Ledger_tradeWith_185 a0 x2 σ21)
  else
  (zf_Ledger_tradeWith_190 σ21))

def zf_Ledger_tradeWith_59 (a0 : Nat) (a1 : Nat) (x2 : Int32) (a3 : Nat) (x4 : Int32) (xs0 : Int32) (σ : za_h) : Option (Int32 × za_h) :=
  (zg_r σ a0 3 0).bind fun b2 =>
  (za_ld σ b2 0 xs0).bind fun v3 =>
  (zg_i σ a3 5 2).bind fun v6 =>
  if v6 = 0 then none else
  (zg_i σ a1 5 3).bind fun v9 =>
  (zg_i σ a3 5 3).bind fun v11 =>
  (zg_r σ a0 3 1).bind fun b13 =>
  (za_ld σ b13 0 x4).bind fun v14 =>
  if (za_min (za_min v9 v11) (za_min v14 (v3 / v6))) = 0 then
  ((zg_c σ a0 3).bind fun _ =>
  (zf_Ledger_canServe a0 a3 σ).bind fun (r18, σ19) =>
  if r18 = 0 then
  (zf_Ledger_tradeWith_118 a0 a1 x2 a3 x4 xs0 (za_min (za_min v9 v11) (za_min v14 (v3 / v6))) σ19)
  else
  (some ((nI 0), σ19)))
  else
  (zf_Ledger_tradeWith_118 a0 a1 x2 a3 x4 xs0 (za_min (za_min v9 v11) (za_min v14 (v3 / v6))) σ)

def zf_Ledger_tradeWith_39 (a0 : Nat) (a1 : Nat) (x2 : Int32) (a3 : Nat) (xs0 : Int32) (σ : za_h) : Option (Int32 × za_h) :=
  (zg_c σ a1 5).bind fun _ =>
  (zf_Offer_sells a1 σ).bind fun (r2, σ3) =>
  if r2 = 0 then
  ((zg_i σ3 a1 5 0).bind fun v7 =>
  zf_Ledger_tradeWith_59 a0 a1 x2 a3 xs0 v7 σ3)
  else
  ((zg_i σ3 a3 5 0).bind fun v9 =>
  zf_Ledger_tradeWith_59 a0 a1 x2 a3 xs0 v9 σ3)

def zf_Ledger_tradeWith (ay0 : Nat) (ay1 : Nat) (xy2 : Int32) (σ : za_h) : Option (Int32 × za_h) :=
  (zg_r σ ay0 3 2).bind fun b2 =>
  (za_lq σ b2 5 xy2).bind fun w3 =>
  match w3 with
  | none => (zf_Ledger_tradeWith_19 σ)
  | some u6 => ((zg_i σ u6 5 2).bind fun v8 =>
  if (nI 1) ≤ v8 then
  ((zg_c σ ay1 5).bind fun _ =>
  (zf_Offer_sells ay1 σ).bind fun (r11, σ12) =>
  if r11 = 0 then
  ((zg_i σ12 u6 5 0).bind fun v16 =>
  zf_Ledger_tradeWith_39 ay0 ay1 xy2 u6 v16 σ12)
  else
  ((zg_i σ12 ay1 5 0).bind fun v18 =>
  zf_Ledger_tradeWith_39 ay0 ay1 xy2 u6 v18 σ12))
  else
  (zf_Ledger_tradeWith_19 σ))
set_option maxRecDepth 100000 in
set_option maxHeartbeats 4000000 in
theorem zm_Ledger_tradeWith {l : Launch} {D : va_G} {ca : Nat → ClassId} {n0 : Nat} {ay0 : Nat} {ay1 : Nat} {xy2 : Int32} {σ σ' : za_h} {r : Int32} (h : zf_Ledger_tradeWith ay0 ay1 xy2 σ = some (r, σ')) : Met l zy_Ledger_tradeWith (za_wy zy_Ledger_tradeWith zc_Ledger_tradeWith 8 (some .boolean)) { frames := 2, cells := 0, slots := 0, locals := 41 } (za_Pc D ca n0 [.ref ay0, .ref ay1, .int xy2] σ) (za_Qi D ca n0 r σ') 0 0 (za_A n0) := by
  refine za_met (by decide) (Nat.le_of_ble_eq_true rfl) ?_
  intro p e s m below meth c ls hx hb hml hr hlk hts hown hnm hK hI hl
  replace hown : s.vm.findClass zR_Ledger = some m.cls := hown
  replace hl : lv_has ls 8 [(0, .ref ay0), (1, .ref ay1), (2, .int xy2)] := hl
  have B19 : ∀ (H : Heap) (locs : List Loc) (ls : Array Slot) (σ : za_h), za_I D ca n0 s σ H locs → lv_has ls 8 [] → zf_Ledger_tradeWith_19 σ = some (r, σ') → W p l e ({ frames := 2, cells := 0, slots := 0, locals := 41 }) s m ([.ref ay0, .ref ay1, .int xy2] : List Value).toArray below meth c H locs 0 0 (MQ below (za_Qi D ca n0 r σ') ([.ref ay0, .ref ay1, .int xy2] : List Value).toArray s 0 0 (za_A n0)) (F0 m 19 ls []) := by
    intro H locs ls σ hI hl h
    unfold zf_Ledger_tradeWith_19 at h
    refine lv_iconst (v := nI 0) hx hb zd_Ledger_tradeWith_19 (by decide) ?_
    exact za_zret hx hb hr hlk hI (by decide) h (Nat.le_of_ble_eq_true rfl) (Nat.le_of_ble_eq_true rfl) zd_Ledger_tradeWith_20
  have B190 : ∀ (H : Heap) (locs : List Loc) (ls : Array Slot) (σ : za_h), za_I D ca n0 s σ H locs → lv_has ls 8 [] → zf_Ledger_tradeWith_190 σ = some (r, σ') → W p l e ({ frames := 2, cells := 0, slots := 0, locals := 41 }) s m ([.ref ay0, .ref ay1, .int xy2] : List Value).toArray below meth c H locs 0 0 (MQ below (za_Qi D ca n0 r σ') ([.ref ay0, .ref ay1, .int xy2] : List Value).toArray s 0 0 (za_A n0)) (F0 m 190 ls []) := by
    intro H locs ls σ hI hl h
    unfold zf_Ledger_tradeWith_190 at h
    refine lv_iconst (v := nI 1) hx hb zd_Ledger_tradeWith_190 (by decide) ?_
    exact za_zret hx hb hr hlk hI (by decide) h (Nat.le_of_ble_eq_true rfl) (Nat.le_of_ble_eq_true rfl) zd_Ledger_tradeWith_191
  have B185 : ∀ (H : Heap) (locs : List Loc) (ls : Array Slot) (a0 : Nat) (x2 : Int32) (σ : za_h), za_I D ca n0 s σ H locs → lv_has ls 8 [(0, .ref a0), (2, .int x2)] → zf_Ledger_tradeWith_185 a0 x2 σ = some (r, σ') → W p l e ({ frames := 2, cells := 0, slots := 0, locals := 41 }) s m ([.ref ay0, .ref ay1, .int xy2] : List Value).toArray below meth c H locs 0 0 (MQ below (za_Qi D ca n0 r σ') ([.ref ay0, .ref ay1, .int xy2] : List Value).toArray s 0 0 (za_A n0)) (F0 m 185 ls []) := by
    intro H locs ls a0 x2 σ hI hl h
    unfold zf_Ledger_tradeWith_185 at h
    refine lv_aload_n hx hb zd_Ledger_tradeWith_185 rfl (lv_at hl 0 rfl) ?_
    refine lv_iload_n hx hb zd_Ledger_tradeWith_186 rfl (lv_at hl 1 rfl) ?_
    obtain ⟨_, g1, h⟩ := zb_o h
    obtain ⟨⟨r2, σ3⟩, e4, h⟩ := zb_o h
    refine za_callv (za_runV hx hb hml hown hts hK hI g1 (zm_Ledger_takeOut e4) zj_Ledger_100 ⟨rfl, rfl⟩ ⟨Nat.le_of_ble_eq_true rfl, Nat.le_of_ble_eq_true rfl⟩ rfl hl.1 rfl (Nat.le_of_ble_eq_true rfl) zd_Ledger_tradeWith_187 ⟨Nat.le_of_ble_eq_true rfl, Nat.le_of_ble_eq_true rfl⟩) hI (fun H locs hI => ?_)
    exact B190 _ _ ls σ3 hI (lv_sub hl [] rfl) h
  have B118 : ∀ (H : Heap) (locs : List Loc) (ls : Array Slot) (a0 : Nat) (a1 : Nat) (x2 : Int32) (a3 : Nat) (x4 : Int32) (x5 : Int32) (x7 : Int32) (σ : za_h), za_I D ca n0 s σ H locs → lv_has ls 8 [(0, .ref a0), (1, .ref a1), (2, .int x2), (3, .ref a3), (4, .int x4), (5, .int x5), (7, .int x7)] → zf_Ledger_tradeWith_118 a0 a1 x2 a3 x4 x5 x7 σ = some (r, σ') → W p l e ({ frames := 2, cells := 0, slots := 0, locals := 41 }) s m ([.ref ay0, .ref ay1, .int xy2] : List Value).toArray below meth c H locs 0 0 (MQ below (za_Qi D ca n0 r σ') ([.ref ay0, .ref ay1, .int xy2] : List Value).toArray s 0 0 (za_A n0)) (F0 m 118 ls []) := by
    intro H locs ls a0 a1 x2 a3 x4 x5 x7 σ hI hl h
    unfold zf_Ledger_tradeWith_118 at h
    refine lv_aload_n hx hb zd_Ledger_tradeWith_118 rfl (lv_at hl 1 rfl) ?_
    refine lv_dup hx hb zd_Ledger_tradeWith_119 rfl ?_
    obtain ⟨v2, e1, h⟩ := zb_o h
    refine za_geti hx hb hts hown hK hI zl_Ledger_57 e1 zd_Ledger_tradeWith_120 ?_
    refine lv_iload hx hb zd_Ledger_tradeWith_123 (lv_at hl 6 rfl) ?_
    refine lv_isub hx hb zd_Ledger_tradeWith_125 ?_
    obtain ⟨σ4, e3, h⟩ := zb_o h
    refine za_put hx hb hts hown hK hI zl_Ledger_57 e3 rfl rfl zd_Ledger_tradeWith_126 (fun H locs hI => ?_)
    refine lv_aload_n hx hb zd_Ledger_tradeWith_129 rfl (lv_at hl 3 rfl) ?_
    refine lv_dup hx hb zd_Ledger_tradeWith_130 rfl ?_
    obtain ⟨v6, e5, h⟩ := zb_o h
    refine za_geti hx hb hts hown hK hI zl_Ledger_57 e5 zd_Ledger_tradeWith_131 ?_
    refine lv_iload hx hb zd_Ledger_tradeWith_134 (lv_at hl 6 rfl) ?_
    refine lv_isub hx hb zd_Ledger_tradeWith_136 ?_
    obtain ⟨σ8, e7, h⟩ := zb_o h
    refine za_put hx hb hts hown hK hI zl_Ledger_57 e7 rfl rfl zd_Ledger_tradeWith_137 (fun H locs hI => ?_)
    refine lv_aload_n hx hb zd_Ledger_tradeWith_140 rfl (lv_at hl 0 rfl) ?_
    refine lv_aload_n hx hb zd_Ledger_tradeWith_141 rfl (lv_at hl 0 rfl) ?_
    obtain ⟨b10, e9, h⟩ := zb_o h
    refine za_getr hx hb hts hown hK hI zl_Ledger_15 e9 zd_Ledger_tradeWith_142 ?_
    refine lv_iload hx hb zd_Ledger_tradeWith_145 (lv_at hl 4 rfl) ?_
    refine lv_iload hx hb zd_Ledger_tradeWith_147 (lv_at hl 5 rfl) ?_
    refine lv_iload hx hb zd_Ledger_tradeWith_149 (lv_at hl 6 rfl) ?_
    obtain ⟨_, g11, h⟩ := zb_o h
    obtain ⟨⟨r12, σ13⟩, e14, h⟩ := zb_o h
    refine za_callv (za_runV hx hb hml hown hts hK hI g11 (zm_Ledger_move e14) zj_Ledger_53 ⟨rfl, rfl⟩ ⟨Nat.le_of_ble_eq_true rfl, Nat.le_of_ble_eq_true rfl⟩ rfl hl.1 rfl (Nat.le_of_ble_eq_true rfl) zd_Ledger_tradeWith_151 ⟨Nat.le_of_ble_eq_true rfl, Nat.le_of_ble_eq_true rfl⟩) hI (fun H locs hI => ?_)
    refine lv_aload_n hx hb zd_Ledger_tradeWith_154 rfl (lv_at hl 0 rfl) ?_
    refine lv_aload_n hx hb zd_Ledger_tradeWith_155 rfl (lv_at hl 0 rfl) ?_
    obtain ⟨b16, e15, h⟩ := zb_o h
    refine za_getr hx hb hts hown hK hI zl_Ledger_9 e15 zd_Ledger_tradeWith_156 ?_
    refine lv_iload hx hb zd_Ledger_tradeWith_159 (lv_at hl 5 rfl) ?_
    refine lv_iload hx hb zd_Ledger_tradeWith_161 (lv_at hl 4 rfl) ?_
    refine lv_iload hx hb zd_Ledger_tradeWith_163 (lv_at hl 6 rfl) ?_
    refine lv_aload_n hx hb zd_Ledger_tradeWith_165 rfl (lv_at hl 3 rfl) ?_
    obtain ⟨v18, e17, h⟩ := zb_o h
    refine za_geti hx hb hts hown hK hI zl_Ledger_72 e17 zd_Ledger_tradeWith_166 ?_
    refine lv_imul hx hb zd_Ledger_tradeWith_169 ?_
    obtain ⟨_, g19, h⟩ := zb_o h
    obtain ⟨⟨r20, σ21⟩, e22, h⟩ := zb_o h
    refine za_callv (za_runV hx hb hml hown hts hK hI g19 (zm_Ledger_move e22) zj_Ledger_53 ⟨rfl, rfl⟩ ⟨Nat.le_of_ble_eq_true rfl, Nat.le_of_ble_eq_true rfl⟩ rfl hl.1 rfl (Nat.le_of_ble_eq_true rfl) zd_Ledger_tradeWith_170 ⟨Nat.le_of_ble_eq_true rfl, Nat.le_of_ble_eq_true rfl⟩) hI (fun H locs hI => ?_)
    refine lv_iload hx hb zd_Ledger_tradeWith_173 (lv_at hl 6 rfl) ?_
    refine lv_if_eq hx hb (tgt := 185) zd_Ledger_tradeWith_175 (by decide) (fun c23 => ?_) (fun c23 => ?_)
    · replace h := zb_t c23 h
      exact B185 _ _ ls a0 x2 σ21 hI (lv_sub hl [0, 2] rfl) h
    · replace h := zb_f c23 h
      refine lv_aload_n hx hb zd_Ledger_tradeWith_178 rfl (lv_at hl 3 rfl) ?_
      obtain ⟨v25, e24, h⟩ := zb_o h
      refine za_geti hx hb hts hown hK hI zl_Ledger_57 e24 zd_Ledger_tradeWith_179 ?_
      refine lv_if_ne hx hb (tgt := 190) zd_Ledger_tradeWith_182 (by decide) (fun c26 => ?_) (fun c26 => ?_)
      · replace h := zb_f c26 h
        exact B190 _ _ ls σ21 hI (lv_sub hl [] rfl) h
      · replace h := zb_t c26 h
        exact B185 _ _ ls a0 x2 σ21 hI (lv_sub hl [0, 2] rfl) h
  have B59 : ∀ (H : Heap) (locs : List Loc) (ls : Array Slot) (a0 : Nat) (a1 : Nat) (x2 : Int32) (a3 : Nat) (x4 : Int32) (xs0 : Int32) (σ : za_h), za_I D ca n0 s σ H locs → lv_has ls 8 [(0, .ref a0), (1, .ref a1), (2, .int x2), (3, .ref a3), (4, .int x4)] → zf_Ledger_tradeWith_59 a0 a1 x2 a3 x4 xs0 σ = some (r, σ') → W p l e ({ frames := 2, cells := 0, slots := 0, locals := 41 }) s m ([.ref ay0, .ref ay1, .int xy2] : List Value).toArray below meth c H locs 0 0 (MQ below (za_Qi D ca n0 r σ') ([.ref ay0, .ref ay1, .int xy2] : List Value).toArray s 0 0 (za_A n0)) (F0 m 59 ls [.int xs0]) := by
    intro H locs ls a0 a1 x2 a3 x4 xs0 σ hI hl h
    unfold zf_Ledger_tradeWith_59 at h
    refine lv_istore (lv' := [(5, .int xs0), (0, .ref a0), (1, .ref a1), (2, .int x2), (3, .ref a3), (4, .int x4)]) hx hb zd_Ledger_tradeWith_59 hl (Nat.le_of_ble_eq_true rfl) rfl (fun ls hl => ?_)
    refine lv_aload_n hx hb zd_Ledger_tradeWith_61 rfl (lv_at hl 1 rfl) ?_
    obtain ⟨b2, e1, h⟩ := zb_o h
    refine za_getr hx hb hts hown hK hI zl_Ledger_9 e1 zd_Ledger_tradeWith_62 ?_
    refine lv_iload hx hb zd_Ledger_tradeWith_65 (lv_at hl 0 rfl) ?_
    obtain ⟨v3, e4, h⟩ := zb_o h
    refine za_iald hx hb hK hI e4 zd_Ledger_tradeWith_67 ?_
    refine lv_aload_n hx hb zd_Ledger_tradeWith_68 rfl (lv_at hl 4 rfl) ?_
    obtain ⟨v6, e5, h⟩ := zb_o h
    refine za_geti hx hb hts hown hK hI zl_Ledger_72 e5 zd_Ledger_tradeWith_69 ?_
    by_cases g7 : v6 = 0
    · exact absurd (zb_t g7 h) (by intro q; cases q)
    replace h := zb_f g7 h
    refine lv_idiv hx hb zd_Ledger_tradeWith_72 g7 ?_
    refine lv_istore (lv' := [(6, .int (v3 / v6)), (5, .int xs0), (0, .ref a0), (1, .ref a1), (2, .int x2), (3, .ref a3), (4, .int x4)]) hx hb zd_Ledger_tradeWith_73 hl (Nat.le_of_ble_eq_true rfl) rfl (fun ls hl => ?_)
    refine lv_aload_n hx hb zd_Ledger_tradeWith_75 rfl (lv_at hl 3 rfl) ?_
    obtain ⟨v9, e8, h⟩ := zb_o h
    refine za_geti hx hb hts hown hK hI zl_Ledger_57 e8 zd_Ledger_tradeWith_76 ?_
    refine lv_aload_n hx hb zd_Ledger_tradeWith_79 rfl (lv_at hl 5 rfl) ?_
    obtain ⟨v11, e10, h⟩ := zb_o h
    refine za_geti hx hb hts hown hK hI zl_Ledger_57 e10 zd_Ledger_tradeWith_80 ?_
    refine va_mmin hx hb (by rw [hml, hl.1]) hown (hts _ zk_443) (hts _ zk_444) (hts _ zk_12) (hts _ zk_445) (Nat.le_of_ble_eq_true rfl) (Nat.le_of_ble_eq_true rfl) (Nat.le_of_ble_eq_true rfl) (Nat.le_of_ble_eq_true rfl) zd_Ledger_tradeWith_83 ?_
    refine lv_aload_n hx hb zd_Ledger_tradeWith_86 rfl (lv_at hl 2 rfl) ?_
    obtain ⟨b13, e12, h⟩ := zb_o h
    refine za_getr hx hb hts hown hK hI zl_Ledger_15 e12 zd_Ledger_tradeWith_87 ?_
    refine lv_iload hx hb zd_Ledger_tradeWith_90 (lv_at hl 6 rfl) ?_
    obtain ⟨v14, e15, h⟩ := zb_o h
    refine za_iald hx hb hK hI e15 zd_Ledger_tradeWith_92 ?_
    refine lv_iload hx hb zd_Ledger_tradeWith_93 (lv_at hl 0 rfl) ?_
    refine va_mmin hx hb (by rw [hml, hl.1]) hown (hts _ zk_443) (hts _ zk_444) (hts _ zk_12) (hts _ zk_445) (Nat.le_of_ble_eq_true rfl) (Nat.le_of_ble_eq_true rfl) (Nat.le_of_ble_eq_true rfl) (Nat.le_of_ble_eq_true rfl) zd_Ledger_tradeWith_95 ?_
    refine va_mmin hx hb (by rw [hml, hl.1]) hown (hts _ zk_443) (hts _ zk_444) (hts _ zk_12) (hts _ zk_445) (Nat.le_of_ble_eq_true rfl) (Nat.le_of_ble_eq_true rfl) (Nat.le_of_ble_eq_true rfl) (Nat.le_of_ble_eq_true rfl) zd_Ledger_tradeWith_98 ?_
    refine lv_istore (lv' := [(7, .int (za_min (za_min v9 v11) (za_min v14 (v3 / v6)))), (6, .int (v3 / v6)), (5, .int xs0), (0, .ref a0), (1, .ref a1), (2, .int x2), (3, .ref a3), (4, .int x4)]) hx hb zd_Ledger_tradeWith_101 hl (Nat.le_of_ble_eq_true rfl) rfl (fun ls hl => ?_)
    refine lv_iload hx hb zd_Ledger_tradeWith_103 (lv_at hl 0 rfl) ?_
    refine lv_if_ne hx hb (tgt := 118) zd_Ledger_tradeWith_105 (by decide) (fun c16 => ?_) (fun c16 => ?_)
    · replace h := zb_f c16 h
      exact B118 _ _ ls a0 a1 x2 a3 x4 xs0 (za_min (za_min v9 v11) (za_min v14 (v3 / v6))) σ hI (lv_sub hl [3, 4, 5, 6, 7, 2, 0] rfl) h
    · replace h := zb_t c16 h
      refine lv_aload_n hx hb zd_Ledger_tradeWith_108 rfl (lv_at hl 3 rfl) ?_
      refine lv_aload_n hx hb zd_Ledger_tradeWith_109 rfl (lv_at hl 6 rfl) ?_
      obtain ⟨_, g17, h⟩ := zb_o h
      obtain ⟨⟨r18, σ19⟩, e20, h⟩ := zb_o h
      refine za_calli (za_runV hx hb hml hown hts hK hI g17 (zm_Ledger_canServe e20) zj_Ledger_96 ⟨rfl, rfl⟩ ⟨Nat.le_of_ble_eq_true rfl, Nat.le_of_ble_eq_true rfl⟩ rfl hl.1 rfl (Nat.le_of_ble_eq_true rfl) zd_Ledger_tradeWith_110 ⟨Nat.le_of_ble_eq_true rfl, Nat.le_of_ble_eq_true rfl⟩) hI (fun H locs hI => ?_)
      refine lv_if_eq hx hb (tgt := 118) zd_Ledger_tradeWith_113 (by decide) (fun c21 => ?_) (fun c21 => ?_)
      · replace h := zb_t c21 h
        exact B118 _ _ ls a0 a1 x2 a3 x4 xs0 (za_min (za_min v9 v11) (za_min v14 (v3 / v6))) σ19 hI (lv_sub hl [3, 4, 5, 6, 7, 2, 0] rfl) h
      · replace h := zb_f c21 h
        refine lv_iconst (v := nI 0) hx hb zd_Ledger_tradeWith_116 (by decide) ?_
        exact za_zret hx hb hr hlk hI (by decide) h (Nat.le_of_ble_eq_true rfl) (Nat.le_of_ble_eq_true rfl) zd_Ledger_tradeWith_117
  have B39 : ∀ (H : Heap) (locs : List Loc) (ls : Array Slot) (a0 : Nat) (a1 : Nat) (x2 : Int32) (a3 : Nat) (xs0 : Int32) (σ : za_h), za_I D ca n0 s σ H locs → lv_has ls 8 [(0, .ref a0), (1, .ref a1), (2, .int x2), (3, .ref a3)] → zf_Ledger_tradeWith_39 a0 a1 x2 a3 xs0 σ = some (r, σ') → W p l e ({ frames := 2, cells := 0, slots := 0, locals := 41 }) s m ([.ref ay0, .ref ay1, .int xy2] : List Value).toArray below meth c H locs 0 0 (MQ below (za_Qi D ca n0 r σ') ([.ref ay0, .ref ay1, .int xy2] : List Value).toArray s 0 0 (za_A n0)) (F0 m 39 ls [.int xs0]) := by
    intro H locs ls a0 a1 x2 a3 xs0 σ hI hl h
    unfold zf_Ledger_tradeWith_39 at h
    refine lv_istore (lv' := [(4, .int xs0), (0, .ref a0), (1, .ref a1), (2, .int x2), (3, .ref a3)]) hx hb zd_Ledger_tradeWith_39 hl (Nat.le_of_ble_eq_true rfl) rfl (fun ls hl => ?_)
    refine lv_aload_n hx hb zd_Ledger_tradeWith_41 rfl (lv_at hl 2 rfl) ?_
    obtain ⟨_, g1, h⟩ := zb_o h
    obtain ⟨⟨r2, σ3⟩, e4, h⟩ := zb_o h
    refine za_calli (za_runV hx hb hml hown hts hK hI g1 (zm_Offer_sells e4) zj_Ledger_83 ⟨rfl, rfl⟩ ⟨Nat.le_of_ble_eq_true rfl, Nat.le_of_ble_eq_true rfl⟩ rfl hl.1 rfl (Nat.le_of_ble_eq_true rfl) zd_Ledger_tradeWith_42 ⟨Nat.le_of_ble_eq_true rfl, Nat.le_of_ble_eq_true rfl⟩) hI (fun H locs hI => ?_)
    refine lv_if_eq hx hb (tgt := 55) zd_Ledger_tradeWith_45 (by decide) (fun c5 => ?_) (fun c5 => ?_)
    · replace h := zb_t c5 h
      refine lv_aload_n hx hb zd_Ledger_tradeWith_55 rfl (lv_at hl 2 rfl) ?_
      obtain ⟨v7, e6, h⟩ := zb_o h
      refine za_geti hx hb hts hown hK hI zl_Ledger_87 e6 zd_Ledger_tradeWith_56 ?_
      exact B59 _ _ ls a0 a1 x2 a3 xs0 v7 σ3 hI (lv_sub hl [1, 2, 3, 4, 0] rfl) h
    · replace h := zb_f c5 h
      refine lv_aload_n hx hb zd_Ledger_tradeWith_48 rfl (lv_at hl 4 rfl) ?_
      obtain ⟨v9, e8, h⟩ := zb_o h
      refine za_geti hx hb hts hown hK hI zl_Ledger_87 e8 zd_Ledger_tradeWith_49 ?_
      refine lv_goto hx hb (tgt := 59) zd_Ledger_tradeWith_52 (by decide) ?_
      exact B59 _ _ ls a0 a1 x2 a3 xs0 v9 σ3 hI (lv_sub hl [1, 2, 3, 4, 0] rfl) h
  unfold zf_Ledger_tradeWith at h
  refine lv_aload_n hx hb zd_Ledger_tradeWith_0 rfl (lv_at hl 0 rfl) ?_
  obtain ⟨b2, e1, h⟩ := zb_o h
  refine za_getr hx hb hts hown hK hI zl_Ledger_20 e1 zd_Ledger_tradeWith_1 ?_
  refine lv_iload_n hx hb zd_Ledger_tradeWith_4 rfl (lv_at hl 2 rfl) ?_
  obtain ⟨w3, e4, h⟩ := zb_o h
  refine za_aald hx hb hK hI (t := 5) rfl e4 zd_Ledger_tradeWith_5 ?_
  refine za_astore_n (lv' := [(3, va_rf w3), (0, .ref ay0), (1, .ref ay1), (2, .int xy2)]) hx hb zd_Ledger_tradeWith_6 rfl hl (Nat.le_of_ble_eq_true rfl) rfl (fun ls hl => ?_)
  refine za_aload_n hx hb zd_Ledger_tradeWith_7 rfl (lv_at hl 0 rfl) ?_
  refine za_ifnull hx hb (tgt := 19) zd_Ledger_tradeWith_8 (by decide) (fun c5 => ?_) (fun u6 c5 => ?_)
  · subst c5
    exact B19 _ _ ls σ hI (lv_sub hl [] rfl) h
  · subst c5
    refine lv_aload_n hx hb zd_Ledger_tradeWith_11 rfl (lv_at hl 0 rfl) ?_
    obtain ⟨v8, e7, h⟩ := zb_o h
    refine za_geti hx hb hts hown hK hI zl_Ledger_72 e7 zd_Ledger_tradeWith_12 ?_
    refine lv_iconst (v := nI 1) hx hb zd_Ledger_tradeWith_15 (by decide) ?_
    refine lv_icmp_ge hx hb (tgt := 21) zd_Ledger_tradeWith_16 (by decide) (fun c9 => ?_) (fun c9 => ?_)
    · replace h := zb_t c9 h
      refine lv_aload_n hx hb zd_Ledger_tradeWith_21 rfl (lv_at hl 2 rfl) ?_
      obtain ⟨_, g10, h⟩ := zb_o h
      obtain ⟨⟨r11, σ12⟩, e13, h⟩ := zb_o h
      refine za_calli (za_runV hx hb hml hown hts hK hI g10 (zm_Offer_sells e13) zj_Ledger_83 ⟨rfl, rfl⟩ ⟨Nat.le_of_ble_eq_true rfl, Nat.le_of_ble_eq_true rfl⟩ rfl hl.1 rfl (Nat.le_of_ble_eq_true rfl) zd_Ledger_tradeWith_22 ⟨Nat.le_of_ble_eq_true rfl, Nat.le_of_ble_eq_true rfl⟩) hI (fun H locs hI => ?_)
      refine lv_if_eq hx hb (tgt := 35) zd_Ledger_tradeWith_25 (by decide) (fun c14 => ?_) (fun c14 => ?_)
      · replace h := zb_t c14 h
        refine lv_aload_n hx hb zd_Ledger_tradeWith_35 rfl (lv_at hl 0 rfl) ?_
        obtain ⟨v16, e15, h⟩ := zb_o h
        refine za_geti hx hb hts hown hK hI zl_Ledger_87 e15 zd_Ledger_tradeWith_36 ?_
        exact B39 _ _ ls ay0 ay1 xy2 u6 v16 σ12 hI (lv_sub hl [1, 2, 3, 0] rfl) h
      · replace h := zb_f c14 h
        refine lv_aload_n hx hb zd_Ledger_tradeWith_28 rfl (lv_at hl 2 rfl) ?_
        obtain ⟨v18, e17, h⟩ := zb_o h
        refine za_geti hx hb hts hown hK hI zl_Ledger_87 e17 zd_Ledger_tradeWith_29 ?_
        refine lv_goto hx hb (tgt := 39) zd_Ledger_tradeWith_32 (by decide) ?_
        exact B39 _ _ ls ay0 ay1 xy2 u6 v18 σ12 hI (lv_sub hl [1, 2, 3, 0] rfl) h
    · replace h := zb_f c9 h
      exact B19 _ _ ls σ hI (lv_sub hl [] rfl) h

def zf_Ledger_match_93  (σ : za_h) : Option (Unit × za_h) :=
  some ((), σ)

def zf_Ledger_match_57 (a0 : Nat) (a1 : Nat) (σ : za_h) : Option (Unit × za_h) :=
  (zg_i σ a1 5 3).bind fun v2 =>
  if v2 ≤ 0 then
  (zf_Ledger_match_93 σ)
  else
  ((zg_i σ a0 3 3).bind fun v5 =>
  if (nI 8) ≤ v5 then
  (zf_Ledger_match_93 σ)
  else
  ((zg_r σ a0 3 2).bind fun b8 =>
  (zg_i σ a0 3 3).bind fun v10 =>
  (za_sq σ b8 5 5 v10 (some a1)).bind fun σ11 =>
  (zg_i σ11 a0 3 3).bind fun v14 =>
  (zp_f σ11 a0 3 3 (.int (v14 + (nI 1)))).bind fun σ16 =>
  zf_Ledger_match_93 σ16))

def zf_Ledger_match_50 (k4 : Nat → Nat → Int32 → Int32 → za_h → Option (Unit × za_h)) (a0 : Nat) (a1 : Nat) (x3 : Int32) (xs0 : Int32) (σ : za_h) : Option (Unit × za_h) :=
  k4 a0 a1 xs0 (x3 + nI 1) σ

def zf_Ledger_match_49 (k4 : Nat → Nat → Int32 → Int32 → za_h → Option (Unit × za_h)) (a0 : Nat) (a1 : Nat) (x3 : Int32) (σ : za_h) : Option (Unit × za_h) :=
  zf_Ledger_match_50 k4 a0 a1 x3 (nI 0) σ

def zf_Ledger_match_4 : Nat → Nat → Nat → Int32 → Int32 → za_h → Option (Unit × za_h)
  | 0, _, _, _, _, _ => none
  | n + 1, a0, a1, x2, x3, σ =>
  if (nI 1009) ≤ x3 then
  (zf_Ledger_match_57 a0 a1 σ)
  else
  (if x2 = 0 then
  (zf_Ledger_match_57 a0 a1 σ)
  else
  ((zg_i σ a1 5 3).bind fun v4 =>
  if v4 ≤ 0 then
  (zf_Ledger_match_57 a0 a1 σ)
  else
  ((zg_c σ a0 3).bind fun _ =>
  (zf_Ledger_bestFor a0 a1 σ).bind fun (r7, σ8) =>
  if r7 = (-1) then
  (zf_Ledger_match_49 (zf_Ledger_match_4 n) a0 a1 x3 σ8)
  else
  ((zg_c σ8 a0 3).bind fun _ =>
  (zf_Ledger_tradeWith a0 a1 r7 σ8).bind fun (r12, σ13) =>
  if r12 = 0 then
  (zf_Ledger_match_49 (zf_Ledger_match_4 n) a0 a1 x3 σ13)
  else
  (zf_Ledger_match_50 (zf_Ledger_match_4 n) a0 a1 x3 (nI 1) σ13)))))

def zf_Ledger_match (ay0 : Nat) (ay1 : Nat) (σ : za_h) : Option (Unit × za_h) :=
  zf_Ledger_match_4 1010 ay0 ay1 (nI 1) (nI 0) σ
set_option maxRecDepth 100000 in
set_option maxHeartbeats 4000000 in
theorem zm_Ledger_match {l : Launch} {D : va_G} {ca : Nat → ClassId} {n0 : Nat} {ay0 : Nat} {ay1 : Nat} {σ σ' : za_h} {r : Unit} (h : zf_Ledger_match ay0 ay1 σ = some (r, σ')) : Met l zy_Ledger_match (za_wy zy_Ledger_match zc_Ledger_match 5 none) { frames := 3, cells := 0, slots := 0, locals := 68 } (za_Pc D ca n0 [.ref ay0, .ref ay1] σ) (za_Qv D ca n0 r σ') 0 0 (za_A n0) := by
  refine za_met (by decide) (Nat.le_of_ble_eq_true rfl) ?_
  intro p e s m below meth c ls hx hb hml hr hlk hts hown hnm hK hI hl
  replace hown : s.vm.findClass zR_Ledger = some m.cls := hown
  replace hl : lv_has ls 5 [(0, .ref ay0), (1, .ref ay1)] := hl
  have B93 : ∀ (H : Heap) (locs : List Loc) (ls : Array Slot) (σ : za_h), za_I D ca n0 s σ H locs → lv_has ls 5 [] → zf_Ledger_match_93 σ = some (r, σ') → W p l e ({ frames := 3, cells := 0, slots := 0, locals := 68 }) s m ([.ref ay0, .ref ay1] : List Value).toArray below meth c H locs 0 0 (MQ below (za_Qv D ca n0 r σ') ([.ref ay0, .ref ay1] : List Value).toArray s 0 0 (za_A n0)) (F0 m 93 ls []) := by
    intro H locs ls σ hI hl h
    unfold zf_Ledger_match_93 at h
    exact za_vret hx hb hr hlk hI h (Nat.le_of_ble_eq_true rfl) (Nat.le_of_ble_eq_true rfl) zd_Ledger_match_93
  have B57 : ∀ (H : Heap) (locs : List Loc) (ls : Array Slot) (a0 : Nat) (a1 : Nat) (σ : za_h), za_I D ca n0 s σ H locs → lv_has ls 5 [(0, .ref a0), (1, .ref a1)] → zf_Ledger_match_57 a0 a1 σ = some (r, σ') → W p l e ({ frames := 3, cells := 0, slots := 0, locals := 68 }) s m ([.ref ay0, .ref ay1] : List Value).toArray below meth c H locs 0 0 (MQ below (za_Qv D ca n0 r σ') ([.ref ay0, .ref ay1] : List Value).toArray s 0 0 (za_A n0)) (F0 m 57 ls []) := by
    intro H locs ls a0 a1 σ hI hl h
    unfold zf_Ledger_match_57 at h
    refine lv_aload_n hx hb zd_Ledger_match_57 rfl (lv_at hl 1 rfl) ?_
    obtain ⟨v2, e1, h⟩ := zb_o h
    refine za_geti hx hb hts hown hK hI zl_Ledger_57 e1 zd_Ledger_match_58 ?_
    refine lv_if_le hx hb (tgt := 93) zd_Ledger_match_61 (by decide) (fun c3 => ?_) (fun c3 => ?_)
    · replace h := zb_t c3 h
      exact B93 _ _ ls σ hI (lv_sub hl [] rfl) h
    · replace h := zb_f c3 h
      refine lv_aload_n hx hb zd_Ledger_match_64 rfl (lv_at hl 0 rfl) ?_
      obtain ⟨v5, e4, h⟩ := zb_o h
      refine za_geti hx hb hts hown hK hI zl_Ledger_66 e4 zd_Ledger_match_65 ?_
      refine lv_bipush (v := nI 8) hx hb zd_Ledger_match_68 (by decide) ?_
      refine lv_icmp_ge hx hb (tgt := 93) zd_Ledger_match_70 (by decide) (fun c6 => ?_) (fun c6 => ?_)
      · replace h := zb_t c6 h
        exact B93 _ _ ls σ hI (lv_sub hl [] rfl) h
      · replace h := zb_f c6 h
        refine lv_aload_n hx hb zd_Ledger_match_73 rfl (lv_at hl 0 rfl) ?_
        obtain ⟨b8, e7, h⟩ := zb_o h
        refine za_getr hx hb hts hown hK hI zl_Ledger_20 e7 zd_Ledger_match_74 ?_
        refine lv_aload_n hx hb zd_Ledger_match_77 rfl (lv_at hl 0 rfl) ?_
        obtain ⟨v10, e9, h⟩ := zb_o h
        refine za_geti hx hb hts hown hK hI zl_Ledger_66 e9 zd_Ledger_match_78 ?_
        refine lv_aload_n hx hb zd_Ledger_match_81 rfl (lv_at hl 1 rfl) ?_
        obtain ⟨σ11, e12, h⟩ := zb_o h
        refine za_aast (o := (some a1)) hx hb hK hI (t := 5) (ci := 5) rfl ⟨_, _, rfl⟩ e12 zd_Ledger_match_82 (fun H locs hI => ?_)
        refine lv_aload_n hx hb zd_Ledger_match_83 rfl (lv_at hl 0 rfl) ?_
        refine lv_dup hx hb zd_Ledger_match_84 rfl ?_
        obtain ⟨v14, e13, h⟩ := zb_o h
        refine za_geti hx hb hts hown hK hI zl_Ledger_66 e13 zd_Ledger_match_85 ?_
        refine lv_iconst (v := nI 1) hx hb zd_Ledger_match_88 (by decide) ?_
        refine lv_iadd hx hb zd_Ledger_match_89 ?_
        obtain ⟨σ16, e15, h⟩ := zb_o h
        refine za_put hx hb hts hown hK hI zl_Ledger_66 e15 rfl rfl zd_Ledger_match_90 (fun H locs hI => ?_)
        exact B93 _ _ ls σ16 hI (lv_sub hl [] rfl) h
  have B50 : ∀ (k4 : Nat → Nat → Int32 → Int32 → za_h → Option (Unit × za_h)), (∀ (H : Heap) (locs : List Loc) (ls : Array Slot) (a0 : Nat) (a1 : Nat) (x2 : Int32) (x3 : Int32) (σ : za_h), za_I D ca n0 s σ H locs → lv_has ls 5 [(0, .ref a0), (1, .ref a1), (2, .int x2), (3, .int x3)] → k4 a0 a1 x2 x3 σ = some (r, σ') → W p l e ({ frames := 3, cells := 0, slots := 0, locals := 68 }) s m ([.ref ay0, .ref ay1] : List Value).toArray below meth c H locs 0 0 (MQ below (za_Qv D ca n0 r σ') ([.ref ay0, .ref ay1] : List Value).toArray s 0 0 (za_A n0)) (F0 m 4 ls [])) → ∀ (H : Heap) (locs : List Loc) (ls : Array Slot) (a0 : Nat) (a1 : Nat) (x3 : Int32) (xs0 : Int32) (σ : za_h), za_I D ca n0 s σ H locs → lv_has ls 5 [(0, .ref a0), (1, .ref a1), (3, .int x3)] → zf_Ledger_match_50 k4 a0 a1 x3 xs0 σ = some (r, σ') → W p l e ({ frames := 3, cells := 0, slots := 0, locals := 68 }) s m ([.ref ay0, .ref ay1] : List Value).toArray below meth c H locs 0 0 (MQ below (za_Qv D ca n0 r σ') ([.ref ay0, .ref ay1] : List Value).toArray s 0 0 (za_A n0)) (F0 m 50 ls [.int xs0]) := by
    intro k4 hk4 H locs ls a0 a1 x3 xs0 σ hI hl h
    unfold zf_Ledger_match_50 at h
    refine lv_istore_n (lv' := [(2, .int xs0), (0, .ref a0), (1, .ref a1), (3, .int x3)]) hx hb zd_Ledger_match_50 rfl hl (Nat.le_of_ble_eq_true rfl) rfl (fun ls hl => ?_)
    refine lv_iinc (k := 3) (v := (x3 + nI 1)) (lv' := [(3, .int (x3 + nI 1)), (2, .int xs0), (0, .ref a0), (1, .ref a1)]) hx hb zd_Ledger_match_51 hl rfl rfl (Nat.le_of_ble_eq_true rfl) rfl (fun ls hl => ?_)
    refine lv_goto hx hb (tgt := 4) zd_Ledger_match_54 (by decide) ?_
    exact hk4 _ _ ls a0 a1 xs0 (x3 + nI 1) σ hI (lv_sub hl [2, 3, 1, 0] rfl) h
  have B49 : ∀ (k4 : Nat → Nat → Int32 → Int32 → za_h → Option (Unit × za_h)), (∀ (H : Heap) (locs : List Loc) (ls : Array Slot) (a0 : Nat) (a1 : Nat) (x2 : Int32) (x3 : Int32) (σ : za_h), za_I D ca n0 s σ H locs → lv_has ls 5 [(0, .ref a0), (1, .ref a1), (2, .int x2), (3, .int x3)] → k4 a0 a1 x2 x3 σ = some (r, σ') → W p l e ({ frames := 3, cells := 0, slots := 0, locals := 68 }) s m ([.ref ay0, .ref ay1] : List Value).toArray below meth c H locs 0 0 (MQ below (za_Qv D ca n0 r σ') ([.ref ay0, .ref ay1] : List Value).toArray s 0 0 (za_A n0)) (F0 m 4 ls [])) → ∀ (H : Heap) (locs : List Loc) (ls : Array Slot) (a0 : Nat) (a1 : Nat) (x3 : Int32) (σ : za_h), za_I D ca n0 s σ H locs → lv_has ls 5 [(0, .ref a0), (1, .ref a1), (3, .int x3)] → zf_Ledger_match_49 k4 a0 a1 x3 σ = some (r, σ') → W p l e ({ frames := 3, cells := 0, slots := 0, locals := 68 }) s m ([.ref ay0, .ref ay1] : List Value).toArray below meth c H locs 0 0 (MQ below (za_Qv D ca n0 r σ') ([.ref ay0, .ref ay1] : List Value).toArray s 0 0 (za_A n0)) (F0 m 49 ls []) := by
    intro k4 hk4 H locs ls a0 a1 x3 σ hI hl h
    unfold zf_Ledger_match_49 at h
    refine lv_iconst (v := nI 0) hx hb zd_Ledger_match_49 (by decide) ?_
    exact B50 _ hk4 _ _ ls a0 a1 x3 (nI 0) σ hI (lv_sub hl [0, 1, 2] rfl) h
  have B4 : ∀ n : Nat, ∀ (H : Heap) (locs : List Loc) (ls : Array Slot) (a0 : Nat) (a1 : Nat) (x2 : Int32) (x3 : Int32) (σ : za_h), za_I D ca n0 s σ H locs → lv_has ls 5 [(0, .ref a0), (1, .ref a1), (2, .int x2), (3, .int x3)] → zf_Ledger_match_4 n a0 a1 x2 x3 σ = some (r, σ') → W p l e ({ frames := 3, cells := 0, slots := 0, locals := 68 }) s m ([.ref ay0, .ref ay1] : List Value).toArray below meth c H locs 0 0 (MQ below (za_Qv D ca n0 r σ') ([.ref ay0, .ref ay1] : List Value).toArray s 0 0 (za_A n0)) (F0 m 4 ls []) := by
    intro n
    induction n with
    | zero => intro H locs ls a0 a1 x2 x3 σ hI hl h; rw [zf_Ledger_match_4] at h; cases h
    | succ n ih =>
      intro H locs ls a0 a1 x2 x3 σ hI hl h
      rw [zf_Ledger_match_4] at h
      refine lv_iload_n hx hb zd_Ledger_match_4 rfl (lv_at hl 3 rfl) ?_
      refine lv_sipush (v := nI 1009) hx hb zd_Ledger_match_5 (by decide) ?_
      refine lv_icmp_ge hx hb (tgt := 57) zd_Ledger_match_8 (by decide) (fun c1 => ?_) (fun c1 => ?_)
      · replace h := zb_t c1 h
        exact B57 _ _ ls a0 a1 σ hI (lv_sub hl [0, 1] rfl) h
      · replace h := zb_f c1 h
        refine lv_iload_n hx hb zd_Ledger_match_11 rfl (lv_at hl 2 rfl) ?_
        refine lv_if_eq hx hb (tgt := 57) zd_Ledger_match_12 (by decide) (fun c2 => ?_) (fun c2 => ?_)
        · replace h := zb_t c2 h
          exact B57 _ _ ls a0 a1 σ hI (lv_sub hl [0, 1] rfl) h
        · replace h := zb_f c2 h
          refine lv_aload_n hx hb zd_Ledger_match_15 rfl (lv_at hl 1 rfl) ?_
          obtain ⟨v4, e3, h⟩ := zb_o h
          refine za_geti hx hb hts hown hK hI zl_Ledger_57 e3 zd_Ledger_match_16 ?_
          refine lv_if_le hx hb (tgt := 57) zd_Ledger_match_19 (by decide) (fun c5 => ?_) (fun c5 => ?_)
          · replace h := zb_t c5 h
            exact B57 _ _ ls a0 a1 σ hI (lv_sub hl [0, 1] rfl) h
          · replace h := zb_f c5 h
            refine lv_aload_n hx hb zd_Ledger_match_22 rfl (lv_at hl 0 rfl) ?_
            refine lv_aload_n hx hb zd_Ledger_match_23 rfl (lv_at hl 1 rfl) ?_
            obtain ⟨_, g6, h⟩ := zb_o h
            obtain ⟨⟨r7, σ8⟩, e9, h⟩ := zb_o h
            refine za_calli (za_runV hx hb hml hown hts hK hI g6 (zm_Ledger_bestFor e9) zj_Ledger_58 ⟨rfl, rfl⟩ ⟨Nat.le_of_ble_eq_true rfl, Nat.le_of_ble_eq_true rfl⟩ rfl hl.1 rfl (Nat.le_of_ble_eq_true rfl) zd_Ledger_match_24 ⟨Nat.le_of_ble_eq_true rfl, Nat.le_of_ble_eq_true rfl⟩) hI (fun H locs hI => ?_)
            refine lv_istore (lv' := [(4, .int r7), (0, .ref a0), (1, .ref a1), (2, .int x2), (3, .int x3)]) hx hb zd_Ledger_match_27 hl (Nat.le_of_ble_eq_true rfl) rfl (fun ls hl => ?_)
            refine lv_iload hx hb zd_Ledger_match_29 (lv_at hl 0 rfl) ?_
            refine lv_iconst (v := -1) hx hb zd_Ledger_match_31 (by decide) ?_
            refine lv_icmp_eq hx hb (tgt := 49) zd_Ledger_match_32 (by decide) (fun c10 => ?_) (fun c10 => ?_)
            · replace h := zb_t c10 h
              exact B49 _ ih _ _ ls a0 a1 x3 σ8 hI (lv_sub hl [1, 2, 4] rfl) h
            · replace h := zb_f c10 h
              refine lv_aload_n hx hb zd_Ledger_match_35 rfl (lv_at hl 1 rfl) ?_
              refine lv_aload_n hx hb zd_Ledger_match_36 rfl (lv_at hl 2 rfl) ?_
              refine lv_iload hx hb zd_Ledger_match_37 (lv_at hl 0 rfl) ?_
              obtain ⟨_, g11, h⟩ := zb_o h
              obtain ⟨⟨r12, σ13⟩, e14, h⟩ := zb_o h
              refine za_calli (za_runV hx hb hml hown hts hK hI g11 (zm_Ledger_tradeWith e14) zj_Ledger_62 ⟨rfl, rfl⟩ ⟨Nat.le_of_ble_eq_true rfl, Nat.le_of_ble_eq_true rfl⟩ rfl hl.1 rfl (Nat.le_of_ble_eq_true rfl) zd_Ledger_match_39 ⟨Nat.le_of_ble_eq_true rfl, Nat.le_of_ble_eq_true rfl⟩) hI (fun H locs hI => ?_)
              refine lv_if_eq hx hb (tgt := 49) zd_Ledger_match_42 (by decide) (fun c15 => ?_) (fun c15 => ?_)
              · replace h := zb_t c15 h
                exact B49 _ ih _ _ ls a0 a1 x3 σ13 hI (lv_sub hl [1, 2, 4] rfl) h
              · replace h := zb_f c15 h
                refine lv_iconst (v := nI 1) hx hb zd_Ledger_match_45 (by decide) ?_
                refine lv_goto hx hb (tgt := 50) zd_Ledger_match_46 (by decide) ?_
                exact B50 _ ih _ _ ls a0 a1 x3 (nI 1) σ13 hI (lv_sub hl [1, 2, 4] rfl) h
  unfold zf_Ledger_match at h
  refine lv_iconst (v := nI 1) hx hb zd_Ledger_match_0 (by decide) ?_
  refine lv_istore_n (lv' := [(2, .int (nI 1)), (0, .ref ay0), (1, .ref ay1)]) hx hb zd_Ledger_match_1 rfl hl (Nat.le_of_ble_eq_true rfl) rfl (fun ls hl => ?_)
  refine lv_iconst (v := nI 0) hx hb zd_Ledger_match_2 (by decide) ?_
  refine lv_istore_n (lv' := [(3, .int (nI 0)), (2, .int (nI 1)), (0, .ref ay0), (1, .ref ay1)]) hx hb zd_Ledger_match_3 rfl hl (Nat.le_of_ble_eq_true rfl) rfl (fun ls hl => ?_)
  exact B4 1010 _ _ ls ay0 ay1 (nI 1) (nI 0) σ hI (lv_sub hl [2, 3, 1, 0] rfl) h

def zf_Ledger_holdings_15 (as0 : Nat) (σ : za_h) : Option (Nat × za_h) :=
  some (as0, σ)

def zf_Ledger_holdings (ay0 : Nat) (xy1 : Int32) (σ : za_h) : Option (Nat × za_h) :=
  if xy1 = 0 then
  ((zg_r σ ay0 3 0).bind fun b5 =>
  zf_Ledger_holdings_15 b5 σ)
  else
  ((zg_r σ ay0 3 1).bind fun b3 =>
  zf_Ledger_holdings_15 b3 σ)
set_option maxRecDepth 100000 in
set_option maxHeartbeats 4000000 in
theorem zm_Ledger_holdings {l : Launch} {D : va_G} {ca : Nat → ClassId} {n0 : Nat} {ay0 : Nat} {xy1 : Int32} {σ σ' : za_h} {r : Nat} (h : zf_Ledger_holdings ay0 xy1 σ = some (r, σ')) : Met l zy_Ledger_holdings (za_wy zy_Ledger_holdings zc_Ledger_holdings 2 (some (.array .int))) { frames := 0, cells := 0, slots := 0, locals := 0 } (za_Pc D ca n0 [.ref ay0, .int xy1] σ) (za_Qr D ca n0 r σ') 0 0 (za_A n0) := by
  refine za_met (by decide) (Nat.le_of_ble_eq_true rfl) ?_
  intro p e s m below meth c ls hx hb hml hr hlk hts hown hnm hK hI hl
  replace hown : s.vm.findClass zR_Ledger = some m.cls := hown
  replace hl : lv_has ls 2 [(0, .ref ay0), (1, .int xy1)] := hl
  have B15 : ∀ (H : Heap) (locs : List Loc) (ls : Array Slot) (as0 : Nat) (σ : za_h), za_I D ca n0 s σ H locs → lv_has ls 2 [] → zf_Ledger_holdings_15 as0 σ = some (r, σ') → W p l e ({ frames := 0, cells := 0, slots := 0, locals := 0 }) s m ([.ref ay0, .int xy1] : List Value).toArray below meth c H locs 0 0 (MQ below (za_Qr D ca n0 r σ') ([.ref ay0, .int xy1] : List Value).toArray s 0 0 (za_A n0)) (F0 m 15 ls [.ref as0]) := by
    intro H locs ls as0 σ hI hl h
    unfold zf_Ledger_holdings_15 at h
    exact za_aret hx hb hr (Or.inr ⟨_, rfl⟩) hlk hI h (Nat.le_of_ble_eq_true rfl) (Nat.le_of_ble_eq_true rfl) zd_Ledger_holdings_15
  unfold zf_Ledger_holdings at h
  refine lv_iload_n hx hb zd_Ledger_holdings_0 rfl (lv_at hl 1 rfl) ?_
  refine lv_if_ne hx hb (tgt := 11) zd_Ledger_holdings_1 (by decide) (fun c1 => ?_) (fun c1 => ?_)
  · replace h := zb_f c1 h
    refine lv_aload_n hx hb zd_Ledger_holdings_11 rfl (lv_at hl 0 rfl) ?_
    obtain ⟨b3, e2, h⟩ := zb_o h
    refine za_getr hx hb hts hown hK hI zl_Ledger_15 e2 zd_Ledger_holdings_12 ?_
    exact B15 _ _ ls b3 σ hI (lv_sub hl [] rfl) h
  · replace h := zb_t c1 h
    refine lv_aload_n hx hb zd_Ledger_holdings_4 rfl (lv_at hl 0 rfl) ?_
    obtain ⟨b5, e4, h⟩ := zb_o h
    refine za_getr hx hb hts hown hK hI zl_Ledger_9 e4 zd_Ledger_holdings_5 ?_
    refine lv_goto hx hb (tgt := 15) zd_Ledger_holdings_8 (by decide) ?_
    exact B15 _ _ ls b5 σ hI (lv_sub hl [] rfl) h

def zf_Ledger_carryOut_108  (σ : za_h) : Option (Unit × za_h) :=
  some ((), σ)

def zf_Ledger_carryOut (ay0 : Nat) (ay1 : Nat) (σ : za_h) : Option (Unit × za_h) :=
  (zg_r σ ay0 3 0).bind fun b2 =>
  (zg_i σ ay1 8 1).bind fun v4 =>
  (za_ld σ b2 0 v4).bind fun v5 =>
  if v5 = 0 then
  (some ((), σ))
  else
  ((zg_r σ ay0 3 0).bind fun b9 =>
  (zg_i σ ay1 8 1).bind fun v11 =>
  (za_ld σ b9 0 v11).bind fun v12 =>
  (za_st σ b9 0 v11 (v12 - (nI 1))).bind fun σ14 =>
  (zg_i σ14 ay1 8 0).bind fun v17 =>
  if v17 = (nI 1) then
  ((zg_i (za_n σ14 (.inr (5, [.int 0, .int 0, .int 0, .int 0]))) ay1 8 1).bind fun v49 =>
  (zg_i (za_n σ14 (.inr (5, [.int 0, .int 0, .int 0, .int 0]))) ay1 8 2).bind fun v51 =>
  (zg_i (za_n σ14 (.inr (5, [.int 0, .int 0, .int 0, .int 0]))) ay1 8 3).bind fun v53 =>
  (zg_i (za_n σ14 (.inr (5, [.int 0, .int 0, .int 0, .int 0]))) ay1 8 4).bind fun v55 =>
  (zf_Offer_init σ14.2 v49 v51 v53 v55 (za_n σ14 (.inr (5, [.int 0, .int 0, .int 0, .int 0])))).bind fun (_, σ57) =>
  (zg_c σ57 ay0 3).bind fun _ =>
  (zf_Ledger_match ay0 σ14.2 σ57).bind fun (_, σ61) =>
  zf_Ledger_carryOut_108 σ61)
  else
  ((zg_i σ14 ay1 8 2).bind fun v20 =>
  (zg_c σ14 ay0 3).bind fun _ =>
  (zf_Ledger_holdings ay0 v20 σ14).bind fun (r22, σ23) =>
  (zg_i σ23 ay1 8 1).bind fun v26 =>
  (za_ld σ23 r22 0 v26).bind fun v27 =>
  (zg_i σ23 ay1 8 4).bind fun v30 =>
  if v27 < v30 then
  (zf_Ledger_carryOut_108 σ23)
  else
  ((zg_i σ23 ay1 8 2).bind fun v33 =>
  (zg_c σ23 ay0 3).bind fun _ =>
  (zf_Ledger_holdings ay0 v33 σ23).bind fun (r35, σ36) =>
  (zg_i σ36 ay1 8 1).bind fun v39 =>
  (zg_i σ36 ay1 8 3).bind fun v41 =>
  (zg_i σ36 ay1 8 4).bind fun v43 =>
  (zg_c σ36 ay0 3).bind fun _ =>
  (zf_Ledger_move ay0 r35 v39 v41 v43 σ36).bind fun (_, σ46) =>
  zf_Ledger_carryOut_108 σ46)))
set_option maxRecDepth 100000 in
set_option maxHeartbeats 4000000 in
theorem zm_Ledger_carryOut {l : Launch} {D : va_G} {ca : Nat → ClassId} {n0 : Nat} {ay0 : Nat} {ay1 : Nat} {σ σ' : za_h} {r : Unit} (h : zf_Ledger_carryOut ay0 ay1 σ = some (r, σ')) : Met l zy_Ledger_carryOut (za_wy zy_Ledger_carryOut zc_Ledger_carryOut 2 none) { frames := 4, cells := 1, slots := 4, locals := 92 } (za_Pc D ca n0 [.ref ay0, .ref ay1] σ) (za_Qv D ca n0 r σ') 1 4 (za_A n0) := by
  refine za_met (by decide) (Nat.le_of_ble_eq_true rfl) ?_
  intro p e s m below meth c ls hx hb hml hr hlk hts hown hnm hK hI hl
  replace hown : s.vm.findClass zR_Ledger = some m.cls := hown
  replace hl : lv_has ls 2 [(0, .ref ay0), (1, .ref ay1)] := hl
  have B108 : ∀ (H : Heap) (locs : List Loc) (ls : Array Slot) (σ : za_h), za_I D ca n0 s σ H locs → lv_has ls 2 [] → zf_Ledger_carryOut_108 σ = some (r, σ') → W p l e ({ frames := 4, cells := 1, slots := 4, locals := 92 }) s m ([.ref ay0, .ref ay1] : List Value).toArray below meth c H locs 1 4 (MQ below (za_Qv D ca n0 r σ') ([.ref ay0, .ref ay1] : List Value).toArray s 1 4 (za_A n0)) (F0 m 108 ls []) := by
    intro H locs ls σ hI hl h
    unfold zf_Ledger_carryOut_108 at h
    exact za_vret hx hb hr hlk hI h (Nat.le_of_ble_eq_true rfl) (Nat.le_of_ble_eq_true rfl) zd_Ledger_carryOut_108
  unfold zf_Ledger_carryOut at h
  refine lv_aload_n hx hb zd_Ledger_carryOut_0 rfl (lv_at hl 0 rfl) ?_
  obtain ⟨b2, e1, h⟩ := zb_o h
  refine za_getr hx hb hts hown hK hI zl_Ledger_9 e1 zd_Ledger_carryOut_1 ?_
  refine lv_aload_n hx hb zd_Ledger_carryOut_4 rfl (lv_at hl 1 rfl) ?_
  obtain ⟨v4, e3, h⟩ := zb_o h
  refine za_geti hx hb hts hown hK hI zl_Ledger_24 e3 zd_Ledger_carryOut_5 ?_
  obtain ⟨v5, e6, h⟩ := zb_o h
  refine za_iald hx hb hK hI e6 zd_Ledger_carryOut_8 ?_
  refine lv_if_ne hx hb (tgt := 13) zd_Ledger_carryOut_9 (by decide) (fun c7 => ?_) (fun c7 => ?_)
  · replace h := zb_f c7 h
    refine lv_aload_n hx hb zd_Ledger_carryOut_13 rfl (lv_at hl 0 rfl) ?_
    obtain ⟨b9, e8, h⟩ := zb_o h
    refine za_getr hx hb hts hown hK hI zl_Ledger_9 e8 zd_Ledger_carryOut_14 ?_
    refine lv_aload_n hx hb zd_Ledger_carryOut_17 rfl (lv_at hl 1 rfl) ?_
    obtain ⟨v11, e10, h⟩ := zb_o h
    refine za_geti hx hb hts hown hK hI zl_Ledger_24 e10 zd_Ledger_carryOut_18 ?_
    refine lv_dup2_11 hx hb zd_Ledger_carryOut_21 rfl rfl ?_
    obtain ⟨v12, e13, h⟩ := zb_o h
    refine za_iald hx hb hK hI e13 zd_Ledger_carryOut_22 ?_
    refine lv_iconst (v := nI 1) hx hb zd_Ledger_carryOut_23 (by decide) ?_
    refine lv_isub hx hb zd_Ledger_carryOut_24 ?_
    obtain ⟨σ14, e15, h⟩ := zb_o h
    refine za_iast hx hb hK hI e15 zd_Ledger_carryOut_25 (fun H locs hI => ?_)
    refine lv_aload_n hx hb zd_Ledger_carryOut_26 rfl (lv_at hl 1 rfl) ?_
    obtain ⟨v17, e16, h⟩ := zb_o h
    refine za_geti hx hb hts hown hK hI zl_Ledger_30 e16 zd_Ledger_carryOut_27 ?_
    refine lv_iconst (v := nI 1) hx hb zd_Ledger_carryOut_30 (by decide) ?_
    refine lv_icmp_ne hx hb (tgt := 64) zd_Ledger_carryOut_31 (by decide) (fun c18 => ?_) (fun c18 => ?_)
    · replace h := zb_f c18 h
      refine lv_aload_n hx hb zd_Ledger_carryOut_64 rfl (lv_at hl 0 rfl) ?_
      refine lv_aload_n hx hb zd_Ledger_carryOut_65 rfl (lv_at hl 1 rfl) ?_
      obtain ⟨v20, e19, h⟩ := zb_o h
      refine za_geti hx hb hts hown hK hI zl_Ledger_33 e19 zd_Ledger_carryOut_66 ?_
      obtain ⟨_, g21, h⟩ := zb_o h
      obtain ⟨⟨r22, σ23⟩, e24, h⟩ := zb_o h
      refine za_callr (za_runV hx hb hml hown hts hK hI g21 (zm_Ledger_holdings e24) zj_Ledger_49 ⟨rfl, rfl⟩ ⟨Nat.le_of_ble_eq_true rfl, Nat.le_of_ble_eq_true rfl⟩ rfl hl.1 rfl (Nat.le_of_ble_eq_true rfl) zd_Ledger_carryOut_69 ⟨Nat.le_of_ble_eq_true rfl, Nat.le_of_ble_eq_true rfl⟩) hI (fun H locs hI => ?_)
      refine lv_aload_n hx hb zd_Ledger_carryOut_72 rfl (lv_at hl 1 rfl) ?_
      obtain ⟨v26, e25, h⟩ := zb_o h
      refine za_geti hx hb hts hown hK hI zl_Ledger_24 e25 zd_Ledger_carryOut_73 ?_
      obtain ⟨v27, e28, h⟩ := zb_o h
      refine za_iald hx hb hK hI e28 zd_Ledger_carryOut_76 ?_
      refine lv_aload_n hx hb zd_Ledger_carryOut_77 rfl (lv_at hl 1 rfl) ?_
      obtain ⟨v30, e29, h⟩ := zb_o h
      refine za_geti hx hb hts hown hK hI zl_Ledger_39 e29 zd_Ledger_carryOut_78 ?_
      refine lv_icmp_lt hx hb (tgt := 108) zd_Ledger_carryOut_81 (by decide) (fun c31 => ?_) (fun c31 => ?_)
      · replace h := zb_t c31 h
        refine W.widen (k := 1) (n := 4) (Nat.le_of_ble_eq_true rfl) (Nat.le_of_ble_eq_true rfl) ?_
        exact B108 _ _ ls σ23 hI (lv_sub hl [] rfl) h
      · replace h := zb_f c31 h
        refine lv_aload_n hx hb zd_Ledger_carryOut_84 rfl (lv_at hl 0 rfl) ?_
        refine lv_aload_n hx hb zd_Ledger_carryOut_85 rfl (lv_at hl 0 rfl) ?_
        refine lv_aload_n hx hb zd_Ledger_carryOut_86 rfl (lv_at hl 1 rfl) ?_
        obtain ⟨v33, e32, h⟩ := zb_o h
        refine za_geti hx hb hts hown hK hI zl_Ledger_33 e32 zd_Ledger_carryOut_87 ?_
        obtain ⟨_, g34, h⟩ := zb_o h
        obtain ⟨⟨r35, σ36⟩, e37, h⟩ := zb_o h
        refine za_callr (za_runV hx hb hml hown hts hK hI g34 (zm_Ledger_holdings e37) zj_Ledger_49 ⟨rfl, rfl⟩ ⟨Nat.le_of_ble_eq_true rfl, Nat.le_of_ble_eq_true rfl⟩ rfl hl.1 rfl (Nat.le_of_ble_eq_true rfl) zd_Ledger_carryOut_90 ⟨Nat.le_of_ble_eq_true rfl, Nat.le_of_ble_eq_true rfl⟩) hI (fun H locs hI => ?_)
        refine lv_aload_n hx hb zd_Ledger_carryOut_93 rfl (lv_at hl 1 rfl) ?_
        obtain ⟨v39, e38, h⟩ := zb_o h
        refine za_geti hx hb hts hown hK hI zl_Ledger_24 e38 zd_Ledger_carryOut_94 ?_
        refine lv_aload_n hx hb zd_Ledger_carryOut_97 rfl (lv_at hl 1 rfl) ?_
        obtain ⟨v41, e40, h⟩ := zb_o h
        refine za_geti hx hb hts hown hK hI zl_Ledger_36 e40 zd_Ledger_carryOut_98 ?_
        refine lv_aload_n hx hb zd_Ledger_carryOut_101 rfl (lv_at hl 1 rfl) ?_
        obtain ⟨v43, e42, h⟩ := zb_o h
        refine za_geti hx hb hts hown hK hI zl_Ledger_39 e42 zd_Ledger_carryOut_102 ?_
        obtain ⟨_, g44, h⟩ := zb_o h
        obtain ⟨⟨r45, σ46⟩, e47, h⟩ := zb_o h
        refine za_callv (za_runV hx hb hml hown hts hK hI g44 (zm_Ledger_move e47) zj_Ledger_53 ⟨rfl, rfl⟩ ⟨Nat.le_of_ble_eq_true rfl, Nat.le_of_ble_eq_true rfl⟩ rfl hl.1 rfl (Nat.le_of_ble_eq_true rfl) zd_Ledger_carryOut_105 ⟨Nat.le_of_ble_eq_true rfl, Nat.le_of_ble_eq_true rfl⟩) hI (fun H locs hI => ?_)
        refine W.widen (k := 1) (n := 4) (Nat.le_of_ble_eq_true rfl) (Nat.le_of_ble_eq_true rfl) ?_
        exact B108 _ _ ls σ46 hI (lv_sub hl [] rfl) h
    · replace h := zb_t c18 h
      refine lv_aload_n hx hb zd_Ledger_carryOut_34 rfl (lv_at hl 0 rfl) ?_
      refine za_new hx hb hts hown hK hI zw_Ledger_18 (Nat.le_of_ble_eq_true rfl) (Nat.le_of_ble_eq_true rfl) zd_Ledger_carryOut_35 (fun H hI => ?_)
      refine lv_dup hx hb zd_Ledger_carryOut_38 rfl ?_
      refine lv_aload_n hx hb zd_Ledger_carryOut_39 rfl (lv_at hl 1 rfl) ?_
      obtain ⟨v49, e48, h⟩ := zb_o h
      refine za_geti hx hb hts hown hK hI zl_Ledger_24 e48 zd_Ledger_carryOut_40 ?_
      refine lv_aload_n hx hb zd_Ledger_carryOut_43 rfl (lv_at hl 1 rfl) ?_
      obtain ⟨v51, e50, h⟩ := zb_o h
      refine za_geti hx hb hts hown hK hI zl_Ledger_33 e50 zd_Ledger_carryOut_44 ?_
      refine lv_aload_n hx hb zd_Ledger_carryOut_47 rfl (lv_at hl 1 rfl) ?_
      obtain ⟨v53, e52, h⟩ := zb_o h
      refine za_geti hx hb hts hown hK hI zl_Ledger_36 e52 zd_Ledger_carryOut_48 ?_
      refine lv_aload_n hx hb zd_Ledger_carryOut_51 rfl (lv_at hl 1 rfl) ?_
      obtain ⟨v55, e54, h⟩ := zb_o h
      refine za_geti hx hb hts hown hK hI zl_Ledger_39 e54 zd_Ledger_carryOut_52 ?_
      obtain ⟨⟨r56, σ57⟩, e58, h⟩ := zb_o h
      refine za_callv (za_runI hx hb hml hown hts hK hI (zm_Offer_init e58) zj_Ledger_42 ⟨rfl, rfl⟩ ⟨Nat.le_of_ble_eq_true rfl, Nat.le_of_ble_eq_true rfl⟩ rfl hl.1 rfl (Nat.le_of_ble_eq_true rfl) zd_Ledger_carryOut_55 ⟨Nat.le_of_ble_eq_true rfl, Nat.le_of_ble_eq_true rfl⟩) hI (fun H locs hI => ?_)
      obtain ⟨_, g59, h⟩ := zb_o h
      obtain ⟨⟨r60, σ61⟩, e62, h⟩ := zb_o h
      refine za_callv (za_runV hx hb hml hown hts hK hI g59 (zm_Ledger_match e62) zj_Ledger_45 ⟨rfl, rfl⟩ ⟨Nat.le_of_ble_eq_true rfl, Nat.le_of_ble_eq_true rfl⟩ rfl hl.1 rfl (Nat.le_of_ble_eq_true rfl) zd_Ledger_carryOut_58 ⟨Nat.le_of_ble_eq_true rfl, Nat.le_of_ble_eq_true rfl⟩) hI (fun H locs hI => ?_)
      refine lv_goto hx hb (tgt := 108) zd_Ledger_carryOut_61 (by decide) ?_
      exact B108 _ _ ls σ61 hI (lv_sub hl [] rfl) h
  · replace h := zb_t c7 h
    exact za_vret hx hb hr hlk hI h (Nat.le_of_ble_eq_true rfl) (Nat.le_of_ble_eq_true rfl) zd_Ledger_carryOut_12
