def zf_Mo_stir_194  (σ : za_h) : Option (Unit × za_h) :=
  some ((), σ)

def zf_Mo_stir_187 (k18 : Nat → Int32 → Int32 → Int32 → za_h → Option (Unit × za_h)) (a0 : Nat) (x1 : Int32) (x3 : Int32) (xs0 : Int32) (σ : za_h) : Option (Unit × za_h) :=
  k18 a0 x1 xs0 (x3 + nI 1) σ

def zf_Mo_stir_186 (k18 : Nat → Int32 → Int32 → Int32 → za_h → Option (Unit × za_h)) (a0 : Nat) (x1 : Int32) (x3 : Int32) (σ : za_h) : Option (Unit × za_h) :=
  zf_Mo_stir_187 k18 a0 x1 x3 (nI 0) σ

def zf_Mo_stir_182 (k18 : Nat → Int32 → Int32 → Int32 → za_h → Option (Unit × za_h)) (a0 : Nat) (x1 : Int32) (x3 : Int32) (σ : za_h) : Option (Unit × za_h) :=
  zf_Mo_stir_187 k18 a0 x1 x3 (nI 1) σ

def zf_Mo_stir_158 (k18 : Nat → Int32 → Int32 → Int32 → za_h → Option (Unit × za_h)) (a0 : Nat) (x1 : Int32) (x3 : Int32) (xs0 : Int32) (σ : za_h) : Option (Unit × za_h) :=
  (zg_c σ a0 10).bind fun _ =>
  (zf_Mo_ruleH a0 x1 σ).bind fun (r2, σ3) =>
  if (nI 2) ≤ r2 then
  (zf_Mo_stir_186 k18 a0 x1 x3 σ3)
  else
  (if r2 = (nI 1) then
  (zf_Mo_stir_182 k18 a0 x1 x3 σ3)
  else
  (if xs0 = 0 then
  (zf_Mo_stir_186 k18 a0 x1 x3 σ3)
  else
  (zf_Mo_stir_182 k18 a0 x1 x3 σ3)))

def zf_Mo_stir_153 (k18 : Nat → Int32 → Int32 → Int32 → za_h → Option (Unit × za_h)) (a0 : Nat) (x1 : Int32) (x3 : Int32) (σ : za_h) : Option (Unit × za_h) :=
  zf_Mo_stir_158 k18 a0 x1 x3 (nI 1) σ

def zf_Mo_stir_140 (k18 : Nat → Int32 → Int32 → Int32 → za_h → Option (Unit × za_h)) (a0 : Nat) (x1 : Int32) (x3 : Int32) (xs0 : Int32) (σ : za_h) : Option (Unit × za_h) :=
  (zg_c σ a0 10).bind fun _ =>
  (zf_Mo_ruleG a0 x1 σ).bind fun (r2, σ3) =>
  if r2 = 0 then
  (if xs0 = 0 then
  (zf_Mo_stir_158 k18 a0 x1 x3 (nI 0) σ3)
  else
  (zf_Mo_stir_153 k18 a0 x1 x3 σ3))
  else
  (zf_Mo_stir_153 k18 a0 x1 x3 σ3)

def zf_Mo_stir_135 (k18 : Nat → Int32 → Int32 → Int32 → za_h → Option (Unit × za_h)) (a0 : Nat) (x1 : Int32) (x3 : Int32) (σ : za_h) : Option (Unit × za_h) :=
  zf_Mo_stir_140 k18 a0 x1 x3 (nI 1) σ

def zf_Mo_stir_118 (k18 : Nat → Int32 → Int32 → Int32 → za_h → Option (Unit × za_h)) (a0 : Nat) (x1 : Int32) (x3 : Int32) (xs0 : Int32) (σ : za_h) : Option (Unit × za_h) :=
  (zg_c σ a0 10).bind fun _ =>
  (zf_Mo_confirm a0 x1 (nI 1) (nI 0) (nI 27) σ).bind fun (r2, σ3) =>
  if r2 = 0 then
  (if xs0 = 0 then
  (zf_Mo_stir_140 k18 a0 x1 x3 (nI 0) σ3)
  else
  (zf_Mo_stir_135 k18 a0 x1 x3 σ3))
  else
  (zf_Mo_stir_135 k18 a0 x1 x3 σ3)

def zf_Mo_stir_113 (k18 : Nat → Int32 → Int32 → Int32 → za_h → Option (Unit × za_h)) (a0 : Nat) (x1 : Int32) (x3 : Int32) (σ : za_h) : Option (Unit × za_h) :=
  zf_Mo_stir_118 k18 a0 x1 x3 (nI 1) σ

def zf_Mo_stir_96 (k18 : Nat → Int32 → Int32 → Int32 → za_h → Option (Unit × za_h)) (a0 : Nat) (x1 : Int32) (x3 : Int32) (xs0 : Int32) (σ : za_h) : Option (Unit × za_h) :=
  (zg_c σ a0 10).bind fun _ =>
  (zf_Mo_accept a0 x1 (nI 1) (nI 0) (nI 27) σ).bind fun (r2, σ3) =>
  if r2 = 0 then
  (if xs0 = 0 then
  (zf_Mo_stir_118 k18 a0 x1 x3 (nI 0) σ3)
  else
  (zf_Mo_stir_113 k18 a0 x1 x3 σ3))
  else
  (zf_Mo_stir_113 k18 a0 x1 x3 σ3)

def zf_Mo_stir_91 (k18 : Nat → Int32 → Int32 → Int32 → za_h → Option (Unit × za_h)) (a0 : Nat) (x1 : Int32) (x3 : Int32) (σ : za_h) : Option (Unit × za_h) :=
  zf_Mo_stir_96 k18 a0 x1 x3 (nI 1) σ

def zf_Mo_stir_78 (k18 : Nat → Int32 → Int32 → Int32 → za_h → Option (Unit × za_h)) (a0 : Nat) (x1 : Int32) (x3 : Int32) (xs0 : Int32) (σ : za_h) : Option (Unit × za_h) :=
  (zg_c σ a0 10).bind fun _ =>
  (zf_Mo_ruleD a0 x1 σ).bind fun (r2, σ3) =>
  if r2 = 0 then
  (if xs0 = 0 then
  (zf_Mo_stir_96 k18 a0 x1 x3 (nI 0) σ3)
  else
  (zf_Mo_stir_91 k18 a0 x1 x3 σ3))
  else
  (zf_Mo_stir_91 k18 a0 x1 x3 σ3)

def zf_Mo_stir_73 (k18 : Nat → Int32 → Int32 → Int32 → za_h → Option (Unit × za_h)) (a0 : Nat) (x1 : Int32) (x3 : Int32) (σ : za_h) : Option (Unit × za_h) :=
  zf_Mo_stir_78 k18 a0 x1 x3 (nI 1) σ

def zf_Mo_stir_56 (k18 : Nat → Int32 → Int32 → Int32 → za_h → Option (Unit × za_h)) (a0 : Nat) (x1 : Int32) (x3 : Int32) (xs0 : Int32) (σ : za_h) : Option (Unit × za_h) :=
  (zg_c σ a0 10).bind fun _ =>
  (zf_Mo_confirm a0 x1 (nI 0) (nI 1) (nI 7) σ).bind fun (r2, σ3) =>
  if r2 = 0 then
  (if xs0 = 0 then
  (zf_Mo_stir_78 k18 a0 x1 x3 (nI 0) σ3)
  else
  (zf_Mo_stir_73 k18 a0 x1 x3 σ3))
  else
  (zf_Mo_stir_73 k18 a0 x1 x3 σ3)

def zf_Mo_stir_51 (k18 : Nat → Int32 → Int32 → Int32 → za_h → Option (Unit × za_h)) (a0 : Nat) (x1 : Int32) (x3 : Int32) (σ : za_h) : Option (Unit × za_h) :=
  zf_Mo_stir_56 k18 a0 x1 x3 (nI 1) σ

def zf_Mo_stir_18 : Nat → Nat → Int32 → Int32 → Int32 → za_h → Option (Unit × za_h)
  | 0, _, _, _, _, _ => none
  | n + 1, a0, x1, x2, x3, σ =>
  if (nI 1000) ≤ x3 then
  (zf_Mo_stir_194 σ)
  else
  (if x2 = 0 then
  (zf_Mo_stir_194 σ)
  else
  ((zg_c σ a0 10).bind fun _ =>
  (zf_Mo_ruleA a0 x1 σ).bind fun (r4, σ5) =>
  (zg_c σ5 a0 10).bind fun _ =>
  (zf_Mo_accept a0 x1 (nI 0) (nI 1) (nI 7) σ5).bind fun (r8, σ9) =>
  if r8 = 0 then
  (if r4 = 0 then
  (zf_Mo_stir_56 (zf_Mo_stir_18 n) a0 x1 x3 (nI 0) σ9)
  else
  (zf_Mo_stir_51 (zf_Mo_stir_18 n) a0 x1 x3 σ9))
  else
  (zf_Mo_stir_51 (zf_Mo_stir_18 n) a0 x1 x3 σ9)))

def zf_Mo_stir_15 (a0 : Nat) (x1 : Int32) (xs0 : Int32) (σ : za_h) : Option (Unit × za_h) :=
  zf_Mo_stir_18 1001 a0 x1 xs0 (nI 0) σ

def zf_Mo_stir (ay0 : Nat) (xy1 : Int32) (σ : za_h) : Option (Unit × za_h) :=
  (zg_r σ ay0 10 7).bind fun b2 =>
  (za_ld σ b2 0 xy1).bind fun v3 =>
  if (nI 3) ≤ v3 then
  (zf_Mo_stir_15 ay0 xy1 (nI 0) σ)
  else
  (zf_Mo_stir_15 ay0 xy1 (nI 1) σ)
set_option maxRecDepth 100000 in
set_option maxHeartbeats 4000000 in
theorem zm_Mo_stir {l : Launch} {D : va_G} {ca : Nat → ClassId} {n0 : Nat} {ay0 : Nat} {xy1 : Int32} {σ σ' : za_h} {r : Unit} (h : zf_Mo_stir ay0 xy1 σ = some (r, σ')) : Met l zy_Mo_stir (za_wy zy_Mo_stir zc_Mo_stir 5 none) { frames := 6, cells := 0, slots := 0, locals := 152 } (za_Pc D ca n0 [.ref ay0, .int xy1] σ) (za_Qv D ca n0 r σ') 0 0 (za_A n0) := by
  refine za_met (by decide) (Nat.le_of_ble_eq_true rfl) ?_
  intro p e s m below meth c ls hx hb hml hr hlk hts hown hnm hK hI hl
  replace hown : s.vm.findClass zR_Mo = some m.cls := hown
  replace hl : lv_has ls 5 [(0, .ref ay0), (1, .int xy1)] := hl
  have B194 : ∀ (H : Heap) (locs : List Loc) (ls : Array Slot) (σ : za_h), za_I D ca n0 s σ H locs → lv_has ls 5 [] → zf_Mo_stir_194 σ = some (r, σ') → W p l e ({ frames := 6, cells := 0, slots := 0, locals := 152 }) s m ([.ref ay0, .int xy1] : List Value).toArray below meth c H locs 0 0 (MQ below (za_Qv D ca n0 r σ') ([.ref ay0, .int xy1] : List Value).toArray s 0 0 (za_A n0)) (F0 m 194 ls []) := by
    intro H locs ls σ hI hl h
    unfold zf_Mo_stir_194 at h
    exact za_vret hx hb hr hlk hI h (Nat.le_of_ble_eq_true rfl) (Nat.le_of_ble_eq_true rfl) zd_Mo_stir_194
  have B187 : ∀ (k18 : Nat → Int32 → Int32 → Int32 → za_h → Option (Unit × za_h)), (∀ (H : Heap) (locs : List Loc) (ls : Array Slot) (a0 : Nat) (x1 : Int32) (x2 : Int32) (x3 : Int32) (σ : za_h), za_I D ca n0 s σ H locs → lv_has ls 5 [(0, .ref a0), (1, .int x1), (2, .int x2), (3, .int x3)] → k18 a0 x1 x2 x3 σ = some (r, σ') → W p l e ({ frames := 6, cells := 0, slots := 0, locals := 152 }) s m ([.ref ay0, .int xy1] : List Value).toArray below meth c H locs 0 0 (MQ below (za_Qv D ca n0 r σ') ([.ref ay0, .int xy1] : List Value).toArray s 0 0 (za_A n0)) (F0 m 18 ls [])) → ∀ (H : Heap) (locs : List Loc) (ls : Array Slot) (a0 : Nat) (x1 : Int32) (x3 : Int32) (xs0 : Int32) (σ : za_h), za_I D ca n0 s σ H locs → lv_has ls 5 [(0, .ref a0), (1, .int x1), (3, .int x3)] → zf_Mo_stir_187 k18 a0 x1 x3 xs0 σ = some (r, σ') → W p l e ({ frames := 6, cells := 0, slots := 0, locals := 152 }) s m ([.ref ay0, .int xy1] : List Value).toArray below meth c H locs 0 0 (MQ below (za_Qv D ca n0 r σ') ([.ref ay0, .int xy1] : List Value).toArray s 0 0 (za_A n0)) (F0 m 187 ls [.int xs0]) := by
    intro k18 hk18 H locs ls a0 x1 x3 xs0 σ hI hl h
    unfold zf_Mo_stir_187 at h
    refine lv_istore_n (lv' := [(2, .int xs0), (0, .ref a0), (1, .int x1), (3, .int x3)]) hx hb zd_Mo_stir_187 rfl hl (Nat.le_of_ble_eq_true rfl) rfl (fun ls hl => ?_)
    refine lv_iinc (k := 3) (v := (x3 + nI 1)) (lv' := [(3, .int (x3 + nI 1)), (2, .int xs0), (0, .ref a0), (1, .int x1)]) hx hb zd_Mo_stir_188 hl rfl rfl (Nat.le_of_ble_eq_true rfl) rfl (fun ls hl => ?_)
    refine lv_goto hx hb (tgt := 18) zd_Mo_stir_191 (by decide) ?_
    exact hk18 _ _ ls a0 x1 xs0 (x3 + nI 1) σ hI (lv_sub hl [2, 3, 1, 0] rfl) h
  have B186 : ∀ (k18 : Nat → Int32 → Int32 → Int32 → za_h → Option (Unit × za_h)), (∀ (H : Heap) (locs : List Loc) (ls : Array Slot) (a0 : Nat) (x1 : Int32) (x2 : Int32) (x3 : Int32) (σ : za_h), za_I D ca n0 s σ H locs → lv_has ls 5 [(0, .ref a0), (1, .int x1), (2, .int x2), (3, .int x3)] → k18 a0 x1 x2 x3 σ = some (r, σ') → W p l e ({ frames := 6, cells := 0, slots := 0, locals := 152 }) s m ([.ref ay0, .int xy1] : List Value).toArray below meth c H locs 0 0 (MQ below (za_Qv D ca n0 r σ') ([.ref ay0, .int xy1] : List Value).toArray s 0 0 (za_A n0)) (F0 m 18 ls [])) → ∀ (H : Heap) (locs : List Loc) (ls : Array Slot) (a0 : Nat) (x1 : Int32) (x3 : Int32) (σ : za_h), za_I D ca n0 s σ H locs → lv_has ls 5 [(0, .ref a0), (1, .int x1), (3, .int x3)] → zf_Mo_stir_186 k18 a0 x1 x3 σ = some (r, σ') → W p l e ({ frames := 6, cells := 0, slots := 0, locals := 152 }) s m ([.ref ay0, .int xy1] : List Value).toArray below meth c H locs 0 0 (MQ below (za_Qv D ca n0 r σ') ([.ref ay0, .int xy1] : List Value).toArray s 0 0 (za_A n0)) (F0 m 186 ls []) := by
    intro k18 hk18 H locs ls a0 x1 x3 σ hI hl h
    unfold zf_Mo_stir_186 at h
    refine lv_iconst (v := nI 0) hx hb zd_Mo_stir_186 (by decide) ?_
    exact B187 _ hk18 _ _ ls a0 x1 x3 (nI 0) σ hI (lv_sub hl [0, 1, 2] rfl) h
  have B182 : ∀ (k18 : Nat → Int32 → Int32 → Int32 → za_h → Option (Unit × za_h)), (∀ (H : Heap) (locs : List Loc) (ls : Array Slot) (a0 : Nat) (x1 : Int32) (x2 : Int32) (x3 : Int32) (σ : za_h), za_I D ca n0 s σ H locs → lv_has ls 5 [(0, .ref a0), (1, .int x1), (2, .int x2), (3, .int x3)] → k18 a0 x1 x2 x3 σ = some (r, σ') → W p l e ({ frames := 6, cells := 0, slots := 0, locals := 152 }) s m ([.ref ay0, .int xy1] : List Value).toArray below meth c H locs 0 0 (MQ below (za_Qv D ca n0 r σ') ([.ref ay0, .int xy1] : List Value).toArray s 0 0 (za_A n0)) (F0 m 18 ls [])) → ∀ (H : Heap) (locs : List Loc) (ls : Array Slot) (a0 : Nat) (x1 : Int32) (x3 : Int32) (σ : za_h), za_I D ca n0 s σ H locs → lv_has ls 5 [(0, .ref a0), (1, .int x1), (3, .int x3)] → zf_Mo_stir_182 k18 a0 x1 x3 σ = some (r, σ') → W p l e ({ frames := 6, cells := 0, slots := 0, locals := 152 }) s m ([.ref ay0, .int xy1] : List Value).toArray below meth c H locs 0 0 (MQ below (za_Qv D ca n0 r σ') ([.ref ay0, .int xy1] : List Value).toArray s 0 0 (za_A n0)) (F0 m 182 ls []) := by
    intro k18 hk18 H locs ls a0 x1 x3 σ hI hl h
    unfold zf_Mo_stir_182 at h
    refine lv_iconst (v := nI 1) hx hb zd_Mo_stir_182 (by decide) ?_
    refine lv_goto hx hb (tgt := 187) zd_Mo_stir_183 (by decide) ?_
    exact B187 _ hk18 _ _ ls a0 x1 x3 (nI 1) σ hI (lv_sub hl [0, 1, 2] rfl) h
  have B158 : ∀ (k18 : Nat → Int32 → Int32 → Int32 → za_h → Option (Unit × za_h)), (∀ (H : Heap) (locs : List Loc) (ls : Array Slot) (a0 : Nat) (x1 : Int32) (x2 : Int32) (x3 : Int32) (σ : za_h), za_I D ca n0 s σ H locs → lv_has ls 5 [(0, .ref a0), (1, .int x1), (2, .int x2), (3, .int x3)] → k18 a0 x1 x2 x3 σ = some (r, σ') → W p l e ({ frames := 6, cells := 0, slots := 0, locals := 152 }) s m ([.ref ay0, .int xy1] : List Value).toArray below meth c H locs 0 0 (MQ below (za_Qv D ca n0 r σ') ([.ref ay0, .int xy1] : List Value).toArray s 0 0 (za_A n0)) (F0 m 18 ls [])) → ∀ (H : Heap) (locs : List Loc) (ls : Array Slot) (a0 : Nat) (x1 : Int32) (x3 : Int32) (xs0 : Int32) (σ : za_h), za_I D ca n0 s σ H locs → lv_has ls 5 [(0, .ref a0), (1, .int x1), (3, .int x3)] → zf_Mo_stir_158 k18 a0 x1 x3 xs0 σ = some (r, σ') → W p l e ({ frames := 6, cells := 0, slots := 0, locals := 152 }) s m ([.ref ay0, .int xy1] : List Value).toArray below meth c H locs 0 0 (MQ below (za_Qv D ca n0 r σ') ([.ref ay0, .int xy1] : List Value).toArray s 0 0 (za_A n0)) (F0 m 158 ls [.int xs0]) := by
    intro k18 hk18 H locs ls a0 x1 x3 xs0 σ hI hl h
    unfold zf_Mo_stir_158 at h
    refine lv_istore_n (lv' := [(2, .int xs0), (0, .ref a0), (1, .int x1), (3, .int x3)]) hx hb zd_Mo_stir_158 rfl hl (Nat.le_of_ble_eq_true rfl) rfl (fun ls hl => ?_)
    refine lv_aload_n hx hb zd_Mo_stir_159 rfl (lv_at hl 1 rfl) ?_
    refine lv_iload_n hx hb zd_Mo_stir_160 rfl (lv_at hl 2 rfl) ?_
    obtain ⟨_, g1, h⟩ := zb_o h
    obtain ⟨⟨r2, σ3⟩, e4, h⟩ := zb_o h
    refine za_calli (za_runV hx hb hml hown hts hK hI g1 (zm_Mo_ruleH e4) zj_Mo_184 ⟨rfl, rfl⟩ ⟨Nat.le_of_ble_eq_true rfl, Nat.le_of_ble_eq_true rfl⟩ rfl hl.1 rfl (Nat.le_of_ble_eq_true rfl) zd_Mo_stir_161 ⟨Nat.le_of_ble_eq_true rfl, Nat.le_of_ble_eq_true rfl⟩) hI (fun H locs hI => ?_)
    refine lv_istore (lv' := [(4, .int r2), (2, .int xs0), (0, .ref a0), (1, .int x1), (3, .int x3)]) hx hb zd_Mo_stir_164 hl (Nat.le_of_ble_eq_true rfl) rfl (fun ls hl => ?_)
    refine lv_iload hx hb zd_Mo_stir_166 (lv_at hl 0 rfl) ?_
    refine lv_iconst (v := nI 2) hx hb zd_Mo_stir_168 (by decide) ?_
    refine lv_icmp_ge hx hb (tgt := 186) zd_Mo_stir_169 (by decide) (fun c5 => ?_) (fun c5 => ?_)
    · replace h := zb_t c5 h
      exact B186 _ hk18 _ _ ls a0 x1 x3 σ3 hI (lv_sub hl [2, 3, 4] rfl) h
    · replace h := zb_f c5 h
      refine lv_iload hx hb zd_Mo_stir_172 (lv_at hl 0 rfl) ?_
      refine lv_iconst (v := nI 1) hx hb zd_Mo_stir_174 (by decide) ?_
      refine lv_icmp_eq hx hb (tgt := 182) zd_Mo_stir_175 (by decide) (fun c6 => ?_) (fun c6 => ?_)
      · replace h := zb_t c6 h
        exact B182 _ hk18 _ _ ls a0 x1 x3 σ3 hI (lv_sub hl [2, 3, 4] rfl) h
      · replace h := zb_f c6 h
        refine lv_iload_n hx hb zd_Mo_stir_178 rfl (lv_at hl 1 rfl) ?_
        refine lv_if_eq hx hb (tgt := 186) zd_Mo_stir_179 (by decide) (fun c7 => ?_) (fun c7 => ?_)
        · replace h := zb_t c7 h
          exact B186 _ hk18 _ _ ls a0 x1 x3 σ3 hI (lv_sub hl [2, 3, 4] rfl) h
        · replace h := zb_f c7 h
          exact B182 _ hk18 _ _ ls a0 x1 x3 σ3 hI (lv_sub hl [2, 3, 4] rfl) h
  have B153 : ∀ (k18 : Nat → Int32 → Int32 → Int32 → za_h → Option (Unit × za_h)), (∀ (H : Heap) (locs : List Loc) (ls : Array Slot) (a0 : Nat) (x1 : Int32) (x2 : Int32) (x3 : Int32) (σ : za_h), za_I D ca n0 s σ H locs → lv_has ls 5 [(0, .ref a0), (1, .int x1), (2, .int x2), (3, .int x3)] → k18 a0 x1 x2 x3 σ = some (r, σ') → W p l e ({ frames := 6, cells := 0, slots := 0, locals := 152 }) s m ([.ref ay0, .int xy1] : List Value).toArray below meth c H locs 0 0 (MQ below (za_Qv D ca n0 r σ') ([.ref ay0, .int xy1] : List Value).toArray s 0 0 (za_A n0)) (F0 m 18 ls [])) → ∀ (H : Heap) (locs : List Loc) (ls : Array Slot) (a0 : Nat) (x1 : Int32) (x3 : Int32) (σ : za_h), za_I D ca n0 s σ H locs → lv_has ls 5 [(0, .ref a0), (1, .int x1), (3, .int x3)] → zf_Mo_stir_153 k18 a0 x1 x3 σ = some (r, σ') → W p l e ({ frames := 6, cells := 0, slots := 0, locals := 152 }) s m ([.ref ay0, .int xy1] : List Value).toArray below meth c H locs 0 0 (MQ below (za_Qv D ca n0 r σ') ([.ref ay0, .int xy1] : List Value).toArray s 0 0 (za_A n0)) (F0 m 153 ls []) := by
    intro k18 hk18 H locs ls a0 x1 x3 σ hI hl h
    unfold zf_Mo_stir_153 at h
    refine lv_iconst (v := nI 1) hx hb zd_Mo_stir_153 (by decide) ?_
    refine lv_goto hx hb (tgt := 158) zd_Mo_stir_154 (by decide) ?_
    exact B158 _ hk18 _ _ ls a0 x1 x3 (nI 1) σ hI (lv_sub hl [0, 1, 2] rfl) h
  have B140 : ∀ (k18 : Nat → Int32 → Int32 → Int32 → za_h → Option (Unit × za_h)), (∀ (H : Heap) (locs : List Loc) (ls : Array Slot) (a0 : Nat) (x1 : Int32) (x2 : Int32) (x3 : Int32) (σ : za_h), za_I D ca n0 s σ H locs → lv_has ls 5 [(0, .ref a0), (1, .int x1), (2, .int x2), (3, .int x3)] → k18 a0 x1 x2 x3 σ = some (r, σ') → W p l e ({ frames := 6, cells := 0, slots := 0, locals := 152 }) s m ([.ref ay0, .int xy1] : List Value).toArray below meth c H locs 0 0 (MQ below (za_Qv D ca n0 r σ') ([.ref ay0, .int xy1] : List Value).toArray s 0 0 (za_A n0)) (F0 m 18 ls [])) → ∀ (H : Heap) (locs : List Loc) (ls : Array Slot) (a0 : Nat) (x1 : Int32) (x3 : Int32) (xs0 : Int32) (σ : za_h), za_I D ca n0 s σ H locs → lv_has ls 5 [(0, .ref a0), (1, .int x1), (3, .int x3)] → zf_Mo_stir_140 k18 a0 x1 x3 xs0 σ = some (r, σ') → W p l e ({ frames := 6, cells := 0, slots := 0, locals := 152 }) s m ([.ref ay0, .int xy1] : List Value).toArray below meth c H locs 0 0 (MQ below (za_Qv D ca n0 r σ') ([.ref ay0, .int xy1] : List Value).toArray s 0 0 (za_A n0)) (F0 m 140 ls [.int xs0]) := by
    intro k18 hk18 H locs ls a0 x1 x3 xs0 σ hI hl h
    unfold zf_Mo_stir_140 at h
    refine lv_istore_n (lv' := [(2, .int xs0), (0, .ref a0), (1, .int x1), (3, .int x3)]) hx hb zd_Mo_stir_140 rfl hl (Nat.le_of_ble_eq_true rfl) rfl (fun ls hl => ?_)
    refine lv_aload_n hx hb zd_Mo_stir_141 rfl (lv_at hl 1 rfl) ?_
    refine lv_iload_n hx hb zd_Mo_stir_142 rfl (lv_at hl 2 rfl) ?_
    obtain ⟨_, g1, h⟩ := zb_o h
    obtain ⟨⟨r2, σ3⟩, e4, h⟩ := zb_o h
    refine za_calli (za_runV hx hb hml hown hts hK hI g1 (zm_Mo_ruleG e4) zj_Mo_181 ⟨rfl, rfl⟩ ⟨Nat.le_of_ble_eq_true rfl, Nat.le_of_ble_eq_true rfl⟩ rfl hl.1 rfl (Nat.le_of_ble_eq_true rfl) zd_Mo_stir_143 ⟨Nat.le_of_ble_eq_true rfl, Nat.le_of_ble_eq_true rfl⟩) hI (fun H locs hI => ?_)
    refine lv_if_ne hx hb (tgt := 153) zd_Mo_stir_146 (by decide) (fun c5 => ?_) (fun c5 => ?_)
    · replace h := zb_f c5 h
      exact B153 _ hk18 _ _ ls a0 x1 x3 σ3 hI (lv_sub hl [1, 2, 3] rfl) h
    · replace h := zb_t c5 h
      refine lv_iload_n hx hb zd_Mo_stir_149 rfl (lv_at hl 0 rfl) ?_
      refine lv_if_eq hx hb (tgt := 157) zd_Mo_stir_150 (by decide) (fun c6 => ?_) (fun c6 => ?_)
      · replace h := zb_t c6 h
        refine lv_iconst (v := nI 0) hx hb zd_Mo_stir_157 (by decide) ?_
        exact B158 _ hk18 _ _ ls a0 x1 x3 (nI 0) σ3 hI (lv_sub hl [1, 2, 3] rfl) h
      · replace h := zb_f c6 h
        exact B153 _ hk18 _ _ ls a0 x1 x3 σ3 hI (lv_sub hl [1, 2, 3] rfl) h
  have B135 : ∀ (k18 : Nat → Int32 → Int32 → Int32 → za_h → Option (Unit × za_h)), (∀ (H : Heap) (locs : List Loc) (ls : Array Slot) (a0 : Nat) (x1 : Int32) (x2 : Int32) (x3 : Int32) (σ : za_h), za_I D ca n0 s σ H locs → lv_has ls 5 [(0, .ref a0), (1, .int x1), (2, .int x2), (3, .int x3)] → k18 a0 x1 x2 x3 σ = some (r, σ') → W p l e ({ frames := 6, cells := 0, slots := 0, locals := 152 }) s m ([.ref ay0, .int xy1] : List Value).toArray below meth c H locs 0 0 (MQ below (za_Qv D ca n0 r σ') ([.ref ay0, .int xy1] : List Value).toArray s 0 0 (za_A n0)) (F0 m 18 ls [])) → ∀ (H : Heap) (locs : List Loc) (ls : Array Slot) (a0 : Nat) (x1 : Int32) (x3 : Int32) (σ : za_h), za_I D ca n0 s σ H locs → lv_has ls 5 [(0, .ref a0), (1, .int x1), (3, .int x3)] → zf_Mo_stir_135 k18 a0 x1 x3 σ = some (r, σ') → W p l e ({ frames := 6, cells := 0, slots := 0, locals := 152 }) s m ([.ref ay0, .int xy1] : List Value).toArray below meth c H locs 0 0 (MQ below (za_Qv D ca n0 r σ') ([.ref ay0, .int xy1] : List Value).toArray s 0 0 (za_A n0)) (F0 m 135 ls []) := by
    intro k18 hk18 H locs ls a0 x1 x3 σ hI hl h
    unfold zf_Mo_stir_135 at h
    refine lv_iconst (v := nI 1) hx hb zd_Mo_stir_135 (by decide) ?_
    refine lv_goto hx hb (tgt := 140) zd_Mo_stir_136 (by decide) ?_
    exact B140 _ hk18 _ _ ls a0 x1 x3 (nI 1) σ hI (lv_sub hl [0, 1, 2] rfl) h
  have B118 : ∀ (k18 : Nat → Int32 → Int32 → Int32 → za_h → Option (Unit × za_h)), (∀ (H : Heap) (locs : List Loc) (ls : Array Slot) (a0 : Nat) (x1 : Int32) (x2 : Int32) (x3 : Int32) (σ : za_h), za_I D ca n0 s σ H locs → lv_has ls 5 [(0, .ref a0), (1, .int x1), (2, .int x2), (3, .int x3)] → k18 a0 x1 x2 x3 σ = some (r, σ') → W p l e ({ frames := 6, cells := 0, slots := 0, locals := 152 }) s m ([.ref ay0, .int xy1] : List Value).toArray below meth c H locs 0 0 (MQ below (za_Qv D ca n0 r σ') ([.ref ay0, .int xy1] : List Value).toArray s 0 0 (za_A n0)) (F0 m 18 ls [])) → ∀ (H : Heap) (locs : List Loc) (ls : Array Slot) (a0 : Nat) (x1 : Int32) (x3 : Int32) (xs0 : Int32) (σ : za_h), za_I D ca n0 s σ H locs → lv_has ls 5 [(0, .ref a0), (1, .int x1), (3, .int x3)] → zf_Mo_stir_118 k18 a0 x1 x3 xs0 σ = some (r, σ') → W p l e ({ frames := 6, cells := 0, slots := 0, locals := 152 }) s m ([.ref ay0, .int xy1] : List Value).toArray below meth c H locs 0 0 (MQ below (za_Qv D ca n0 r σ') ([.ref ay0, .int xy1] : List Value).toArray s 0 0 (za_A n0)) (F0 m 118 ls [.int xs0]) := by
    intro k18 hk18 H locs ls a0 x1 x3 xs0 σ hI hl h
    unfold zf_Mo_stir_118 at h
    refine lv_istore_n (lv' := [(2, .int xs0), (0, .ref a0), (1, .int x1), (3, .int x3)]) hx hb zd_Mo_stir_118 rfl hl (Nat.le_of_ble_eq_true rfl) rfl (fun ls hl => ?_)
    refine lv_aload_n hx hb zd_Mo_stir_119 rfl (lv_at hl 1 rfl) ?_
    refine lv_iload_n hx hb zd_Mo_stir_120 rfl (lv_at hl 2 rfl) ?_
    refine lv_iconst (v := nI 1) hx hb zd_Mo_stir_121 (by decide) ?_
    refine lv_iconst (v := nI 0) hx hb zd_Mo_stir_122 (by decide) ?_
    refine lv_bipush (v := nI 27) hx hb zd_Mo_stir_123 (by decide) ?_
    obtain ⟨_, g1, h⟩ := zb_o h
    obtain ⟨⟨r2, σ3⟩, e4, h⟩ := zb_o h
    refine za_calli (za_runV hx hb hml hown hts hK hI g1 (zm_Mo_confirm e4) zj_Mo_175 ⟨rfl, rfl⟩ ⟨Nat.le_of_ble_eq_true rfl, Nat.le_of_ble_eq_true rfl⟩ rfl hl.1 rfl (Nat.le_of_ble_eq_true rfl) zd_Mo_stir_125 ⟨Nat.le_of_ble_eq_true rfl, Nat.le_of_ble_eq_true rfl⟩) hI (fun H locs hI => ?_)
    refine lv_if_ne hx hb (tgt := 135) zd_Mo_stir_128 (by decide) (fun c5 => ?_) (fun c5 => ?_)
    · replace h := zb_f c5 h
      exact B135 _ hk18 _ _ ls a0 x1 x3 σ3 hI (lv_sub hl [1, 2, 3] rfl) h
    · replace h := zb_t c5 h
      refine lv_iload_n hx hb zd_Mo_stir_131 rfl (lv_at hl 0 rfl) ?_
      refine lv_if_eq hx hb (tgt := 139) zd_Mo_stir_132 (by decide) (fun c6 => ?_) (fun c6 => ?_)
      · replace h := zb_t c6 h
        refine lv_iconst (v := nI 0) hx hb zd_Mo_stir_139 (by decide) ?_
        exact B140 _ hk18 _ _ ls a0 x1 x3 (nI 0) σ3 hI (lv_sub hl [1, 2, 3] rfl) h
      · replace h := zb_f c6 h
        exact B135 _ hk18 _ _ ls a0 x1 x3 σ3 hI (lv_sub hl [1, 2, 3] rfl) h
  have B113 : ∀ (k18 : Nat → Int32 → Int32 → Int32 → za_h → Option (Unit × za_h)), (∀ (H : Heap) (locs : List Loc) (ls : Array Slot) (a0 : Nat) (x1 : Int32) (x2 : Int32) (x3 : Int32) (σ : za_h), za_I D ca n0 s σ H locs → lv_has ls 5 [(0, .ref a0), (1, .int x1), (2, .int x2), (3, .int x3)] → k18 a0 x1 x2 x3 σ = some (r, σ') → W p l e ({ frames := 6, cells := 0, slots := 0, locals := 152 }) s m ([.ref ay0, .int xy1] : List Value).toArray below meth c H locs 0 0 (MQ below (za_Qv D ca n0 r σ') ([.ref ay0, .int xy1] : List Value).toArray s 0 0 (za_A n0)) (F0 m 18 ls [])) → ∀ (H : Heap) (locs : List Loc) (ls : Array Slot) (a0 : Nat) (x1 : Int32) (x3 : Int32) (σ : za_h), za_I D ca n0 s σ H locs → lv_has ls 5 [(0, .ref a0), (1, .int x1), (3, .int x3)] → zf_Mo_stir_113 k18 a0 x1 x3 σ = some (r, σ') → W p l e ({ frames := 6, cells := 0, slots := 0, locals := 152 }) s m ([.ref ay0, .int xy1] : List Value).toArray below meth c H locs 0 0 (MQ below (za_Qv D ca n0 r σ') ([.ref ay0, .int xy1] : List Value).toArray s 0 0 (za_A n0)) (F0 m 113 ls []) := by
    intro k18 hk18 H locs ls a0 x1 x3 σ hI hl h
    unfold zf_Mo_stir_113 at h
    refine lv_iconst (v := nI 1) hx hb zd_Mo_stir_113 (by decide) ?_
    refine lv_goto hx hb (tgt := 118) zd_Mo_stir_114 (by decide) ?_
    exact B118 _ hk18 _ _ ls a0 x1 x3 (nI 1) σ hI (lv_sub hl [0, 1, 2] rfl) h
  have B96 : ∀ (k18 : Nat → Int32 → Int32 → Int32 → za_h → Option (Unit × za_h)), (∀ (H : Heap) (locs : List Loc) (ls : Array Slot) (a0 : Nat) (x1 : Int32) (x2 : Int32) (x3 : Int32) (σ : za_h), za_I D ca n0 s σ H locs → lv_has ls 5 [(0, .ref a0), (1, .int x1), (2, .int x2), (3, .int x3)] → k18 a0 x1 x2 x3 σ = some (r, σ') → W p l e ({ frames := 6, cells := 0, slots := 0, locals := 152 }) s m ([.ref ay0, .int xy1] : List Value).toArray below meth c H locs 0 0 (MQ below (za_Qv D ca n0 r σ') ([.ref ay0, .int xy1] : List Value).toArray s 0 0 (za_A n0)) (F0 m 18 ls [])) → ∀ (H : Heap) (locs : List Loc) (ls : Array Slot) (a0 : Nat) (x1 : Int32) (x3 : Int32) (xs0 : Int32) (σ : za_h), za_I D ca n0 s σ H locs → lv_has ls 5 [(0, .ref a0), (1, .int x1), (3, .int x3)] → zf_Mo_stir_96 k18 a0 x1 x3 xs0 σ = some (r, σ') → W p l e ({ frames := 6, cells := 0, slots := 0, locals := 152 }) s m ([.ref ay0, .int xy1] : List Value).toArray below meth c H locs 0 0 (MQ below (za_Qv D ca n0 r σ') ([.ref ay0, .int xy1] : List Value).toArray s 0 0 (za_A n0)) (F0 m 96 ls [.int xs0]) := by
    intro k18 hk18 H locs ls a0 x1 x3 xs0 σ hI hl h
    unfold zf_Mo_stir_96 at h
    refine lv_istore_n (lv' := [(2, .int xs0), (0, .ref a0), (1, .int x1), (3, .int x3)]) hx hb zd_Mo_stir_96 rfl hl (Nat.le_of_ble_eq_true rfl) rfl (fun ls hl => ?_)
    refine lv_aload_n hx hb zd_Mo_stir_97 rfl (lv_at hl 1 rfl) ?_
    refine lv_iload_n hx hb zd_Mo_stir_98 rfl (lv_at hl 2 rfl) ?_
    refine lv_iconst (v := nI 1) hx hb zd_Mo_stir_99 (by decide) ?_
    refine lv_iconst (v := nI 0) hx hb zd_Mo_stir_100 (by decide) ?_
    refine lv_bipush (v := nI 27) hx hb zd_Mo_stir_101 (by decide) ?_
    obtain ⟨_, g1, h⟩ := zb_o h
    obtain ⟨⟨r2, σ3⟩, e4, h⟩ := zb_o h
    refine za_calli (za_runV hx hb hml hown hts hK hI g1 (zm_Mo_accept e4) zj_Mo_165 ⟨rfl, rfl⟩ ⟨Nat.le_of_ble_eq_true rfl, Nat.le_of_ble_eq_true rfl⟩ rfl hl.1 rfl (Nat.le_of_ble_eq_true rfl) zd_Mo_stir_103 ⟨Nat.le_of_ble_eq_true rfl, Nat.le_of_ble_eq_true rfl⟩) hI (fun H locs hI => ?_)
    refine lv_if_ne hx hb (tgt := 113) zd_Mo_stir_106 (by decide) (fun c5 => ?_) (fun c5 => ?_)
    · replace h := zb_f c5 h
      exact B113 _ hk18 _ _ ls a0 x1 x3 σ3 hI (lv_sub hl [1, 2, 3] rfl) h
    · replace h := zb_t c5 h
      refine lv_iload_n hx hb zd_Mo_stir_109 rfl (lv_at hl 0 rfl) ?_
      refine lv_if_eq hx hb (tgt := 117) zd_Mo_stir_110 (by decide) (fun c6 => ?_) (fun c6 => ?_)
      · replace h := zb_t c6 h
        refine lv_iconst (v := nI 0) hx hb zd_Mo_stir_117 (by decide) ?_
        exact B118 _ hk18 _ _ ls a0 x1 x3 (nI 0) σ3 hI (lv_sub hl [1, 2, 3] rfl) h
      · replace h := zb_f c6 h
        exact B113 _ hk18 _ _ ls a0 x1 x3 σ3 hI (lv_sub hl [1, 2, 3] rfl) h
  have B91 : ∀ (k18 : Nat → Int32 → Int32 → Int32 → za_h → Option (Unit × za_h)), (∀ (H : Heap) (locs : List Loc) (ls : Array Slot) (a0 : Nat) (x1 : Int32) (x2 : Int32) (x3 : Int32) (σ : za_h), za_I D ca n0 s σ H locs → lv_has ls 5 [(0, .ref a0), (1, .int x1), (2, .int x2), (3, .int x3)] → k18 a0 x1 x2 x3 σ = some (r, σ') → W p l e ({ frames := 6, cells := 0, slots := 0, locals := 152 }) s m ([.ref ay0, .int xy1] : List Value).toArray below meth c H locs 0 0 (MQ below (za_Qv D ca n0 r σ') ([.ref ay0, .int xy1] : List Value).toArray s 0 0 (za_A n0)) (F0 m 18 ls [])) → ∀ (H : Heap) (locs : List Loc) (ls : Array Slot) (a0 : Nat) (x1 : Int32) (x3 : Int32) (σ : za_h), za_I D ca n0 s σ H locs → lv_has ls 5 [(0, .ref a0), (1, .int x1), (3, .int x3)] → zf_Mo_stir_91 k18 a0 x1 x3 σ = some (r, σ') → W p l e ({ frames := 6, cells := 0, slots := 0, locals := 152 }) s m ([.ref ay0, .int xy1] : List Value).toArray below meth c H locs 0 0 (MQ below (za_Qv D ca n0 r σ') ([.ref ay0, .int xy1] : List Value).toArray s 0 0 (za_A n0)) (F0 m 91 ls []) := by
    intro k18 hk18 H locs ls a0 x1 x3 σ hI hl h
    unfold zf_Mo_stir_91 at h
    refine lv_iconst (v := nI 1) hx hb zd_Mo_stir_91 (by decide) ?_
    refine lv_goto hx hb (tgt := 96) zd_Mo_stir_92 (by decide) ?_
    exact B96 _ hk18 _ _ ls a0 x1 x3 (nI 1) σ hI (lv_sub hl [0, 1, 2] rfl) h
  have B78 : ∀ (k18 : Nat → Int32 → Int32 → Int32 → za_h → Option (Unit × za_h)), (∀ (H : Heap) (locs : List Loc) (ls : Array Slot) (a0 : Nat) (x1 : Int32) (x2 : Int32) (x3 : Int32) (σ : za_h), za_I D ca n0 s σ H locs → lv_has ls 5 [(0, .ref a0), (1, .int x1), (2, .int x2), (3, .int x3)] → k18 a0 x1 x2 x3 σ = some (r, σ') → W p l e ({ frames := 6, cells := 0, slots := 0, locals := 152 }) s m ([.ref ay0, .int xy1] : List Value).toArray below meth c H locs 0 0 (MQ below (za_Qv D ca n0 r σ') ([.ref ay0, .int xy1] : List Value).toArray s 0 0 (za_A n0)) (F0 m 18 ls [])) → ∀ (H : Heap) (locs : List Loc) (ls : Array Slot) (a0 : Nat) (x1 : Int32) (x3 : Int32) (xs0 : Int32) (σ : za_h), za_I D ca n0 s σ H locs → lv_has ls 5 [(0, .ref a0), (1, .int x1), (3, .int x3)] → zf_Mo_stir_78 k18 a0 x1 x3 xs0 σ = some (r, σ') → W p l e ({ frames := 6, cells := 0, slots := 0, locals := 152 }) s m ([.ref ay0, .int xy1] : List Value).toArray below meth c H locs 0 0 (MQ below (za_Qv D ca n0 r σ') ([.ref ay0, .int xy1] : List Value).toArray s 0 0 (za_A n0)) (F0 m 78 ls [.int xs0]) := by
    intro k18 hk18 H locs ls a0 x1 x3 xs0 σ hI hl h
    unfold zf_Mo_stir_78 at h
    refine lv_istore_n (lv' := [(2, .int xs0), (0, .ref a0), (1, .int x1), (3, .int x3)]) hx hb zd_Mo_stir_78 rfl hl (Nat.le_of_ble_eq_true rfl) rfl (fun ls hl => ?_)
    refine lv_aload_n hx hb zd_Mo_stir_79 rfl (lv_at hl 1 rfl) ?_
    refine lv_iload_n hx hb zd_Mo_stir_80 rfl (lv_at hl 2 rfl) ?_
    obtain ⟨_, g1, h⟩ := zb_o h
    obtain ⟨⟨r2, σ3⟩, e4, h⟩ := zb_o h
    refine za_calli (za_runV hx hb hml hown hts hK hI g1 (zm_Mo_ruleD e4) zj_Mo_178 ⟨rfl, rfl⟩ ⟨Nat.le_of_ble_eq_true rfl, Nat.le_of_ble_eq_true rfl⟩ rfl hl.1 rfl (Nat.le_of_ble_eq_true rfl) zd_Mo_stir_81 ⟨Nat.le_of_ble_eq_true rfl, Nat.le_of_ble_eq_true rfl⟩) hI (fun H locs hI => ?_)
    refine lv_if_ne hx hb (tgt := 91) zd_Mo_stir_84 (by decide) (fun c5 => ?_) (fun c5 => ?_)
    · replace h := zb_f c5 h
      exact B91 _ hk18 _ _ ls a0 x1 x3 σ3 hI (lv_sub hl [1, 2, 3] rfl) h
    · replace h := zb_t c5 h
      refine lv_iload_n hx hb zd_Mo_stir_87 rfl (lv_at hl 0 rfl) ?_
      refine lv_if_eq hx hb (tgt := 95) zd_Mo_stir_88 (by decide) (fun c6 => ?_) (fun c6 => ?_)
      · replace h := zb_t c6 h
        refine lv_iconst (v := nI 0) hx hb zd_Mo_stir_95 (by decide) ?_
        exact B96 _ hk18 _ _ ls a0 x1 x3 (nI 0) σ3 hI (lv_sub hl [1, 2, 3] rfl) h
      · replace h := zb_f c6 h
        exact B91 _ hk18 _ _ ls a0 x1 x3 σ3 hI (lv_sub hl [1, 2, 3] rfl) h
  have B73 : ∀ (k18 : Nat → Int32 → Int32 → Int32 → za_h → Option (Unit × za_h)), (∀ (H : Heap) (locs : List Loc) (ls : Array Slot) (a0 : Nat) (x1 : Int32) (x2 : Int32) (x3 : Int32) (σ : za_h), za_I D ca n0 s σ H locs → lv_has ls 5 [(0, .ref a0), (1, .int x1), (2, .int x2), (3, .int x3)] → k18 a0 x1 x2 x3 σ = some (r, σ') → W p l e ({ frames := 6, cells := 0, slots := 0, locals := 152 }) s m ([.ref ay0, .int xy1] : List Value).toArray below meth c H locs 0 0 (MQ below (za_Qv D ca n0 r σ') ([.ref ay0, .int xy1] : List Value).toArray s 0 0 (za_A n0)) (F0 m 18 ls [])) → ∀ (H : Heap) (locs : List Loc) (ls : Array Slot) (a0 : Nat) (x1 : Int32) (x3 : Int32) (σ : za_h), za_I D ca n0 s σ H locs → lv_has ls 5 [(0, .ref a0), (1, .int x1), (3, .int x3)] → zf_Mo_stir_73 k18 a0 x1 x3 σ = some (r, σ') → W p l e ({ frames := 6, cells := 0, slots := 0, locals := 152 }) s m ([.ref ay0, .int xy1] : List Value).toArray below meth c H locs 0 0 (MQ below (za_Qv D ca n0 r σ') ([.ref ay0, .int xy1] : List Value).toArray s 0 0 (za_A n0)) (F0 m 73 ls []) := by
    intro k18 hk18 H locs ls a0 x1 x3 σ hI hl h
    unfold zf_Mo_stir_73 at h
    refine lv_iconst (v := nI 1) hx hb zd_Mo_stir_73 (by decide) ?_
    refine lv_goto hx hb (tgt := 78) zd_Mo_stir_74 (by decide) ?_
    exact B78 _ hk18 _ _ ls a0 x1 x3 (nI 1) σ hI (lv_sub hl [0, 1, 2] rfl) h
  have B56 : ∀ (k18 : Nat → Int32 → Int32 → Int32 → za_h → Option (Unit × za_h)), (∀ (H : Heap) (locs : List Loc) (ls : Array Slot) (a0 : Nat) (x1 : Int32) (x2 : Int32) (x3 : Int32) (σ : za_h), za_I D ca n0 s σ H locs → lv_has ls 5 [(0, .ref a0), (1, .int x1), (2, .int x2), (3, .int x3)] → k18 a0 x1 x2 x3 σ = some (r, σ') → W p l e ({ frames := 6, cells := 0, slots := 0, locals := 152 }) s m ([.ref ay0, .int xy1] : List Value).toArray below meth c H locs 0 0 (MQ below (za_Qv D ca n0 r σ') ([.ref ay0, .int xy1] : List Value).toArray s 0 0 (za_A n0)) (F0 m 18 ls [])) → ∀ (H : Heap) (locs : List Loc) (ls : Array Slot) (a0 : Nat) (x1 : Int32) (x3 : Int32) (xs0 : Int32) (σ : za_h), za_I D ca n0 s σ H locs → lv_has ls 5 [(0, .ref a0), (1, .int x1), (3, .int x3)] → zf_Mo_stir_56 k18 a0 x1 x3 xs0 σ = some (r, σ') → W p l e ({ frames := 6, cells := 0, slots := 0, locals := 152 }) s m ([.ref ay0, .int xy1] : List Value).toArray below meth c H locs 0 0 (MQ below (za_Qv D ca n0 r σ') ([.ref ay0, .int xy1] : List Value).toArray s 0 0 (za_A n0)) (F0 m 56 ls [.int xs0]) := by
    intro k18 hk18 H locs ls a0 x1 x3 xs0 σ hI hl h
    unfold zf_Mo_stir_56 at h
    refine lv_istore_n (lv' := [(2, .int xs0), (0, .ref a0), (1, .int x1), (3, .int x3)]) hx hb zd_Mo_stir_56 rfl hl (Nat.le_of_ble_eq_true rfl) rfl (fun ls hl => ?_)
    refine lv_aload_n hx hb zd_Mo_stir_57 rfl (lv_at hl 1 rfl) ?_
    refine lv_iload_n hx hb zd_Mo_stir_58 rfl (lv_at hl 2 rfl) ?_
    refine lv_iconst (v := nI 0) hx hb zd_Mo_stir_59 (by decide) ?_
    refine lv_iconst (v := nI 1) hx hb zd_Mo_stir_60 (by decide) ?_
    refine lv_bipush (v := nI 7) hx hb zd_Mo_stir_61 (by decide) ?_
    obtain ⟨_, g1, h⟩ := zb_o h
    obtain ⟨⟨r2, σ3⟩, e4, h⟩ := zb_o h
    refine za_calli (za_runV hx hb hml hown hts hK hI g1 (zm_Mo_confirm e4) zj_Mo_175 ⟨rfl, rfl⟩ ⟨Nat.le_of_ble_eq_true rfl, Nat.le_of_ble_eq_true rfl⟩ rfl hl.1 rfl (Nat.le_of_ble_eq_true rfl) zd_Mo_stir_63 ⟨Nat.le_of_ble_eq_true rfl, Nat.le_of_ble_eq_true rfl⟩) hI (fun H locs hI => ?_)
    refine lv_if_ne hx hb (tgt := 73) zd_Mo_stir_66 (by decide) (fun c5 => ?_) (fun c5 => ?_)
    · replace h := zb_f c5 h
      exact B73 _ hk18 _ _ ls a0 x1 x3 σ3 hI (lv_sub hl [1, 2, 3] rfl) h
    · replace h := zb_t c5 h
      refine lv_iload_n hx hb zd_Mo_stir_69 rfl (lv_at hl 0 rfl) ?_
      refine lv_if_eq hx hb (tgt := 77) zd_Mo_stir_70 (by decide) (fun c6 => ?_) (fun c6 => ?_)
      · replace h := zb_t c6 h
        refine lv_iconst (v := nI 0) hx hb zd_Mo_stir_77 (by decide) ?_
        exact B78 _ hk18 _ _ ls a0 x1 x3 (nI 0) σ3 hI (lv_sub hl [1, 2, 3] rfl) h
      · replace h := zb_f c6 h
        exact B73 _ hk18 _ _ ls a0 x1 x3 σ3 hI (lv_sub hl [1, 2, 3] rfl) h
  have B51 : ∀ (k18 : Nat → Int32 → Int32 → Int32 → za_h → Option (Unit × za_h)), (∀ (H : Heap) (locs : List Loc) (ls : Array Slot) (a0 : Nat) (x1 : Int32) (x2 : Int32) (x3 : Int32) (σ : za_h), za_I D ca n0 s σ H locs → lv_has ls 5 [(0, .ref a0), (1, .int x1), (2, .int x2), (3, .int x3)] → k18 a0 x1 x2 x3 σ = some (r, σ') → W p l e ({ frames := 6, cells := 0, slots := 0, locals := 152 }) s m ([.ref ay0, .int xy1] : List Value).toArray below meth c H locs 0 0 (MQ below (za_Qv D ca n0 r σ') ([.ref ay0, .int xy1] : List Value).toArray s 0 0 (za_A n0)) (F0 m 18 ls [])) → ∀ (H : Heap) (locs : List Loc) (ls : Array Slot) (a0 : Nat) (x1 : Int32) (x3 : Int32) (σ : za_h), za_I D ca n0 s σ H locs → lv_has ls 5 [(0, .ref a0), (1, .int x1), (3, .int x3)] → zf_Mo_stir_51 k18 a0 x1 x3 σ = some (r, σ') → W p l e ({ frames := 6, cells := 0, slots := 0, locals := 152 }) s m ([.ref ay0, .int xy1] : List Value).toArray below meth c H locs 0 0 (MQ below (za_Qv D ca n0 r σ') ([.ref ay0, .int xy1] : List Value).toArray s 0 0 (za_A n0)) (F0 m 51 ls []) := by
    intro k18 hk18 H locs ls a0 x1 x3 σ hI hl h
    unfold zf_Mo_stir_51 at h
    refine lv_iconst (v := nI 1) hx hb zd_Mo_stir_51 (by decide) ?_
    refine lv_goto hx hb (tgt := 56) zd_Mo_stir_52 (by decide) ?_
    exact B56 _ hk18 _ _ ls a0 x1 x3 (nI 1) σ hI (lv_sub hl [0, 1, 2] rfl) h
  have B18 : ∀ n : Nat, ∀ (H : Heap) (locs : List Loc) (ls : Array Slot) (a0 : Nat) (x1 : Int32) (x2 : Int32) (x3 : Int32) (σ : za_h), za_I D ca n0 s σ H locs → lv_has ls 5 [(0, .ref a0), (1, .int x1), (2, .int x2), (3, .int x3)] → zf_Mo_stir_18 n a0 x1 x2 x3 σ = some (r, σ') → W p l e ({ frames := 6, cells := 0, slots := 0, locals := 152 }) s m ([.ref ay0, .int xy1] : List Value).toArray below meth c H locs 0 0 (MQ below (za_Qv D ca n0 r σ') ([.ref ay0, .int xy1] : List Value).toArray s 0 0 (za_A n0)) (F0 m 18 ls []) := by
    intro n
    induction n with
    | zero => intro H locs ls a0 x1 x2 x3 σ hI hl h; rw [zf_Mo_stir_18] at h; cases h
    | succ n ih =>
      intro H locs ls a0 x1 x2 x3 σ hI hl h
      rw [zf_Mo_stir_18] at h
      refine lv_iload_n hx hb zd_Mo_stir_18 rfl (lv_at hl 3 rfl) ?_
      refine lv_sipush (v := nI 1000) hx hb zd_Mo_stir_19 (by decide) ?_
      refine lv_icmp_ge hx hb (tgt := 194) zd_Mo_stir_22 (by decide) (fun c1 => ?_) (fun c1 => ?_)
      · replace h := zb_t c1 h
        exact B194 _ _ ls σ hI (lv_sub hl [] rfl) h
      · replace h := zb_f c1 h
        refine lv_iload_n hx hb zd_Mo_stir_25 rfl (lv_at hl 2 rfl) ?_
        refine lv_if_eq hx hb (tgt := 194) zd_Mo_stir_26 (by decide) (fun c2 => ?_) (fun c2 => ?_)
        · replace h := zb_t c2 h
          exact B194 _ _ ls σ hI (lv_sub hl [] rfl) h
        · replace h := zb_f c2 h
          refine lv_aload_n hx hb zd_Mo_stir_29 rfl (lv_at hl 0 rfl) ?_
          refine lv_iload_n hx hb zd_Mo_stir_30 rfl (lv_at hl 1 rfl) ?_
          obtain ⟨_, g3, h⟩ := zb_o h
          obtain ⟨⟨r4, σ5⟩, e6, h⟩ := zb_o h
          refine za_calli (za_runV hx hb hml hown hts hK hI g3 (zm_Mo_ruleA e6) zj_Mo_172 ⟨rfl, rfl⟩ ⟨Nat.le_of_ble_eq_true rfl, Nat.le_of_ble_eq_true rfl⟩ rfl hl.1 rfl (Nat.le_of_ble_eq_true rfl) zd_Mo_stir_31 ⟨Nat.le_of_ble_eq_true rfl, Nat.le_of_ble_eq_true rfl⟩) hI (fun H locs hI => ?_)
          refine lv_istore_n (lv' := [(2, .int r4), (0, .ref a0), (1, .int x1), (3, .int x3)]) hx hb zd_Mo_stir_34 rfl hl (Nat.le_of_ble_eq_true rfl) rfl (fun ls hl => ?_)
          refine lv_aload_n hx hb zd_Mo_stir_35 rfl (lv_at hl 1 rfl) ?_
          refine lv_iload_n hx hb zd_Mo_stir_36 rfl (lv_at hl 2 rfl) ?_
          refine lv_iconst (v := nI 0) hx hb zd_Mo_stir_37 (by decide) ?_
          refine lv_iconst (v := nI 1) hx hb zd_Mo_stir_38 (by decide) ?_
          refine lv_bipush (v := nI 7) hx hb zd_Mo_stir_39 (by decide) ?_
          obtain ⟨_, g7, h⟩ := zb_o h
          obtain ⟨⟨r8, σ9⟩, e10, h⟩ := zb_o h
          refine za_calli (za_runV hx hb hml hown hts hK hI g7 (zm_Mo_accept e10) zj_Mo_165 ⟨rfl, rfl⟩ ⟨Nat.le_of_ble_eq_true rfl, Nat.le_of_ble_eq_true rfl⟩ rfl hl.1 rfl (Nat.le_of_ble_eq_true rfl) zd_Mo_stir_41 ⟨Nat.le_of_ble_eq_true rfl, Nat.le_of_ble_eq_true rfl⟩) hI (fun H locs hI => ?_)
          refine lv_if_ne hx hb (tgt := 51) zd_Mo_stir_44 (by decide) (fun c11 => ?_) (fun c11 => ?_)
          · replace h := zb_f c11 h
            exact B51 _ ih _ _ ls a0 x1 x3 σ9 hI (lv_sub hl [1, 2, 3] rfl) h
          · replace h := zb_t c11 h
            refine lv_iload_n hx hb zd_Mo_stir_47 rfl (lv_at hl 0 rfl) ?_
            refine lv_if_eq hx hb (tgt := 55) zd_Mo_stir_48 (by decide) (fun c12 => ?_) (fun c12 => ?_)
            · replace h := zb_t c12 h
              refine lv_iconst (v := nI 0) hx hb zd_Mo_stir_55 (by decide) ?_
              exact B56 _ ih _ _ ls a0 x1 x3 (nI 0) σ9 hI (lv_sub hl [1, 2, 3] rfl) h
            · replace h := zb_f c12 h
              exact B51 _ ih _ _ ls a0 x1 x3 σ9 hI (lv_sub hl [1, 2, 3] rfl) h
  have B15 : ∀ (H : Heap) (locs : List Loc) (ls : Array Slot) (a0 : Nat) (x1 : Int32) (xs0 : Int32) (σ : za_h), za_I D ca n0 s σ H locs → lv_has ls 5 [(0, .ref a0), (1, .int x1)] → zf_Mo_stir_15 a0 x1 xs0 σ = some (r, σ') → W p l e ({ frames := 6, cells := 0, slots := 0, locals := 152 }) s m ([.ref ay0, .int xy1] : List Value).toArray below meth c H locs 0 0 (MQ below (za_Qv D ca n0 r σ') ([.ref ay0, .int xy1] : List Value).toArray s 0 0 (za_A n0)) (F0 m 15 ls [.int xs0]) := by
    intro H locs ls a0 x1 xs0 σ hI hl h
    unfold zf_Mo_stir_15 at h
    refine lv_istore_n (lv' := [(2, .int xs0), (0, .ref a0), (1, .int x1)]) hx hb zd_Mo_stir_15 rfl hl (Nat.le_of_ble_eq_true rfl) rfl (fun ls hl => ?_)
    refine lv_iconst (v := nI 0) hx hb zd_Mo_stir_16 (by decide) ?_
    refine lv_istore_n (lv' := [(3, .int (nI 0)), (2, .int xs0), (0, .ref a0), (1, .int x1)]) hx hb zd_Mo_stir_17 rfl hl (Nat.le_of_ble_eq_true rfl) rfl (fun ls hl => ?_)
    exact B18 1001 _ _ ls a0 x1 xs0 (nI 0) σ hI (lv_sub hl [2, 3, 1, 0] rfl) h
  unfold zf_Mo_stir at h
  refine lv_aload_n hx hb zd_Mo_stir_0 rfl (lv_at hl 0 rfl) ?_
  obtain ⟨b2, e1, h⟩ := zb_o h
  refine za_getr hx hb hts hown hK hI zl_Mo_26 e1 zd_Mo_stir_1 ?_
  refine lv_iload_n hx hb zd_Mo_stir_4 rfl (lv_at hl 1 rfl) ?_
  obtain ⟨v3, e4, h⟩ := zb_o h
  refine za_iald hx hb hK hI e4 zd_Mo_stir_5 ?_
  refine lv_iconst (v := nI 3) hx hb zd_Mo_stir_6 (by decide) ?_
  refine lv_icmp_ge hx hb (tgt := 14) zd_Mo_stir_7 (by decide) (fun c5 => ?_) (fun c5 => ?_)
  · replace h := zb_t c5 h
    refine lv_iconst (v := nI 0) hx hb zd_Mo_stir_14 (by decide) ?_
    exact B15 _ _ ls ay0 xy1 (nI 0) σ hI (lv_sub hl [0, 1] rfl) h
  · replace h := zb_f c5 h
    refine lv_iconst (v := nI 1) hx hb zd_Mo_stir_10 (by decide) ?_
    refine lv_goto hx hb (tgt := 15) zd_Mo_stir_11 (by decide) ?_
    exact B15 _ _ ls ay0 xy1 (nI 1) σ hI (lv_sub hl [0, 1] rfl) h

def zf_Mo_newRound_112 (k49 : Nat → Int32 → Int32 → Int32 → Int32 → Int32 → za_h → Option (Unit × za_h)) (a0 : Nat) (x1 : Int32) (x2 : Int32) (x3 : Int32) (x4 : Int32) (x5 : Int32) (σ : za_h) : Option (Unit × za_h) :=
  k49 a0 x1 x2 x3 x4 (x5 + nI 1) σ

def zf_Mo_newRound_49 : Nat → Nat → Int32 → Int32 → Int32 → Int32 → Int32 → za_h → Option (Unit × za_h)
  | 0, _, _, _, _, _, _, _ => none
  | n + 1, a0, x1, x2, x3, x4, x5, σ =>
  if (nI 5) ≤ x5 then
  ((zg_r σ a0 10 9).bind fun b3 =>
  (zg_r σ a0 10 9).bind fun b5 =>
  (za_ld σ b5 0 x1).bind fun v6 =>
  (za_st σ b3 0 x1 (v6 ||| ((nI 1) <<< (x3 &&& 31)))).bind fun σ8 =>
  some ((), σ8))
  else
  ((zg_r σ a0 10 7).bind fun b11 =>
  (za_ld σ b11 0 x1).bind fun v12 =>
  (zg_r σ a0 10 8).bind fun b15 =>
  (za_ld σ b15 0 x1).bind fun v16 =>
  if ((x2 >>> (x5 &&& 31)) &&& (nI 1)) = (nI 1) then
  (if ((((((nI 37) * x5) + ((nI 61) * v12)) + ((nI 17) * v16)) * (nI 29)) - (((((nI 37) * x5) + ((nI 61) * v12)) + ((nI 17) * v16)) * (nI 29)) / (nI 101) * (nI 101)) ≤ x4 then
  (zf_Mo_newRound_112 (zf_Mo_newRound_49 n) a0 x1 x2 x3 x4 x5 σ)
  else
  (zf_Mo_newRound_112 (zf_Mo_newRound_49 n) a0 x1 x2 x5 ((((((nI 37) * x5) + ((nI 61) * v12)) + ((nI 17) * v16)) * (nI 29)) - (((((nI 37) * x5) + ((nI 61) * v12)) + ((nI 17) * v16)) * (nI 29)) / (nI 101) * (nI 101)) x5 σ))
  else
  (zf_Mo_newRound_112 (zf_Mo_newRound_49 n) a0 x1 x2 x3 x4 x5 σ))

def zf_Mo_newRound_39 (a0 : Nat) (x1 : Int32) (xs0 : Int32) (xs1 : Int32) (σ : za_h) : Option (Unit × za_h) :=
  zf_Mo_newRound_49 6 a0 x1 (xs0 ||| xs1) (-1) (-1) (nI 0) σ

def zf_Mo_newRound (ay0 : Nat) (xy1 : Int32) (σ : za_h) : Option (Unit × za_h) :=
  (zg_r σ ay0 10 8).bind fun b2 =>
  (za_ld σ b2 0 xy1).bind fun v3 =>
  (za_st σ b2 0 xy1 (v3 + (nI 1))).bind fun σ5 =>
  (zg_r σ5 ay0 10 3).bind fun b8 =>
  (za_ld σ5 b8 0 xy1).bind fun v9 =>
  (zg_r σ5 ay0 10 4).bind fun b12 =>
  (za_ld σ5 b12 0 xy1).bind fun v13 =>
  if v13 ≤ 0 then
  (zf_Mo_newRound_39 ay0 xy1 (v9 ||| ((nI 1) <<< (xy1 &&& 31))) (nI 0) σ5)
  else
  ((zg_r σ5 ay0 10 5).bind fun b17 =>
  (za_ld σ5 b17 0 xy1).bind fun v18 =>
  zf_Mo_newRound_39 ay0 xy1 (v9 ||| ((nI 1) <<< (xy1 &&& 31))) v18 σ5)
set_option maxRecDepth 100000 in
set_option maxHeartbeats 4000000 in
theorem zm_Mo_newRound {l : Launch} {D : va_G} {ca : Nat → ClassId} {n0 : Nat} {ay0 : Nat} {xy1 : Int32} {σ σ' : za_h} {r : Unit} (h : zf_Mo_newRound ay0 xy1 σ = some (r, σ')) : Met l zy_Mo_newRound (za_wy zy_Mo_newRound zc_Mo_newRound 7 none) { frames := 0, cells := 0, slots := 0, locals := 0 } (za_Pc D ca n0 [.ref ay0, .int xy1] σ) (za_Qv D ca n0 r σ') 0 0 (za_A n0) := by
  refine za_met (by decide) (Nat.le_of_ble_eq_true rfl) ?_
  intro p e s m below meth c ls hx hb hml hr hlk hts hown hnm hK hI hl
  replace hown : s.vm.findClass zR_Mo = some m.cls := hown
  replace hl : lv_has ls 7 [(0, .ref ay0), (1, .int xy1)] := hl
  have B112 : ∀ (k49 : Nat → Int32 → Int32 → Int32 → Int32 → Int32 → za_h → Option (Unit × za_h)), (∀ (H : Heap) (locs : List Loc) (ls : Array Slot) (a0 : Nat) (x1 : Int32) (x2 : Int32) (x3 : Int32) (x4 : Int32) (x5 : Int32) (σ : za_h), za_I D ca n0 s σ H locs → lv_has ls 7 [(0, .ref a0), (1, .int x1), (2, .int x2), (3, .int x3), (4, .int x4), (5, .int x5)] → k49 a0 x1 x2 x3 x4 x5 σ = some (r, σ') → W p l e ({ frames := 0, cells := 0, slots := 0, locals := 0 }) s m ([.ref ay0, .int xy1] : List Value).toArray below meth c H locs 0 0 (MQ below (za_Qv D ca n0 r σ') ([.ref ay0, .int xy1] : List Value).toArray s 0 0 (za_A n0)) (F0 m 49 ls [])) → ∀ (H : Heap) (locs : List Loc) (ls : Array Slot) (a0 : Nat) (x1 : Int32) (x2 : Int32) (x3 : Int32) (x4 : Int32) (x5 : Int32) (σ : za_h), za_I D ca n0 s σ H locs → lv_has ls 7 [(0, .ref a0), (1, .int x1), (2, .int x2), (3, .int x3), (4, .int x4), (5, .int x5)] → zf_Mo_newRound_112 k49 a0 x1 x2 x3 x4 x5 σ = some (r, σ') → W p l e ({ frames := 0, cells := 0, slots := 0, locals := 0 }) s m ([.ref ay0, .int xy1] : List Value).toArray below meth c H locs 0 0 (MQ below (za_Qv D ca n0 r σ') ([.ref ay0, .int xy1] : List Value).toArray s 0 0 (za_A n0)) (F0 m 112 ls []) := by
    intro k49 hk49 H locs ls a0 x1 x2 x3 x4 x5 σ hI hl h
    unfold zf_Mo_newRound_112 at h
    refine lv_iinc (k := 5) (v := (x5 + nI 1)) (lv' := [(5, .int (x5 + nI 1)), (0, .ref a0), (1, .int x1), (2, .int x2), (3, .int x3), (4, .int x4)]) hx hb zd_Mo_newRound_112 hl rfl rfl (Nat.le_of_ble_eq_true rfl) rfl (fun ls hl => ?_)
    refine lv_goto hx hb (tgt := 49) zd_Mo_newRound_115 (by decide) ?_
    exact hk49 _ _ ls a0 x1 x2 x3 x4 (x5 + nI 1) σ hI (lv_sub hl [1, 2, 3, 4, 5, 0] rfl) h
  have B49 : ∀ n : Nat, ∀ (H : Heap) (locs : List Loc) (ls : Array Slot) (a0 : Nat) (x1 : Int32) (x2 : Int32) (x3 : Int32) (x4 : Int32) (x5 : Int32) (σ : za_h), za_I D ca n0 s σ H locs → lv_has ls 7 [(0, .ref a0), (1, .int x1), (2, .int x2), (3, .int x3), (4, .int x4), (5, .int x5)] → zf_Mo_newRound_49 n a0 x1 x2 x3 x4 x5 σ = some (r, σ') → W p l e ({ frames := 0, cells := 0, slots := 0, locals := 0 }) s m ([.ref ay0, .int xy1] : List Value).toArray below meth c H locs 0 0 (MQ below (za_Qv D ca n0 r σ') ([.ref ay0, .int xy1] : List Value).toArray s 0 0 (za_A n0)) (F0 m 49 ls []) := by
    intro n
    induction n with
    | zero => intro H locs ls a0 x1 x2 x3 x4 x5 σ hI hl h; rw [zf_Mo_newRound_49] at h; cases h
    | succ n ih =>
      intro H locs ls a0 x1 x2 x3 x4 x5 σ hI hl h
      rw [zf_Mo_newRound_49] at h
      refine lv_iload hx hb zd_Mo_newRound_49 (lv_at hl 5 rfl) ?_
      refine lv_iconst (v := nI 5) hx hb zd_Mo_newRound_51 (by decide) ?_
      refine lv_icmp_ge hx hb (tgt := 118) zd_Mo_newRound_52 (by decide) (fun c1 => ?_) (fun c1 => ?_)
      · replace h := zb_t c1 h
        refine lv_aload_n hx hb zd_Mo_newRound_118 rfl (lv_at hl 0 rfl) ?_
        obtain ⟨b3, e2, h⟩ := zb_o h
        refine za_getr hx hb hts hown hK hI zl_Mo_32 e2 zd_Mo_newRound_119 ?_
        refine lv_iload_n hx hb zd_Mo_newRound_122 rfl (lv_at hl 1 rfl) ?_
        refine lv_aload_n hx hb zd_Mo_newRound_123 rfl (lv_at hl 0 rfl) ?_
        obtain ⟨b5, e4, h⟩ := zb_o h
        refine za_getr hx hb hts hown hK hI zl_Mo_32 e4 zd_Mo_newRound_124 ?_
        refine lv_iload_n hx hb zd_Mo_newRound_127 rfl (lv_at hl 1 rfl) ?_
        obtain ⟨v6, e7, h⟩ := zb_o h
        refine za_iald hx hb hK hI e7 zd_Mo_newRound_128 ?_
        refine lv_iconst (v := nI 1) hx hb zd_Mo_newRound_129 (by decide) ?_
        refine lv_iload_n hx hb zd_Mo_newRound_130 rfl (lv_at hl 3 rfl) ?_
        refine lv_ishl hx hb zd_Mo_newRound_131 ?_
        refine lv_ior hx hb zd_Mo_newRound_132 ?_
        obtain ⟨σ8, e9, h⟩ := zb_o h
        refine za_iast hx hb hK hI e9 zd_Mo_newRound_133 (fun H locs hI => ?_)
        exact za_vret hx hb hr hlk hI h (Nat.le_of_ble_eq_true rfl) (Nat.le_of_ble_eq_true rfl) zd_Mo_newRound_134
      · replace h := zb_f c1 h
        refine lv_bipush (v := nI 37) hx hb zd_Mo_newRound_55 (by decide) ?_
        refine lv_iload hx hb zd_Mo_newRound_57 (lv_at hl 5 rfl) ?_
        refine lv_imul hx hb zd_Mo_newRound_59 ?_
        refine lv_bipush (v := nI 61) hx hb zd_Mo_newRound_60 (by decide) ?_
        refine lv_aload_n hx hb zd_Mo_newRound_62 rfl (lv_at hl 0 rfl) ?_
        obtain ⟨b11, e10, h⟩ := zb_o h
        refine za_getr hx hb hts hown hK hI zl_Mo_26 e10 zd_Mo_newRound_63 ?_
        refine lv_iload_n hx hb zd_Mo_newRound_66 rfl (lv_at hl 1 rfl) ?_
        obtain ⟨v12, e13, h⟩ := zb_o h
        refine za_iald hx hb hK hI e13 zd_Mo_newRound_67 ?_
        refine lv_imul hx hb zd_Mo_newRound_68 ?_
        refine lv_iadd hx hb zd_Mo_newRound_69 ?_
        refine lv_bipush (v := nI 17) hx hb zd_Mo_newRound_70 (by decide) ?_
        refine lv_aload_n hx hb zd_Mo_newRound_72 rfl (lv_at hl 0 rfl) ?_
        obtain ⟨b15, e14, h⟩ := zb_o h
        refine za_getr hx hb hts hown hK hI zl_Mo_29 e14 zd_Mo_newRound_73 ?_
        refine lv_iload_n hx hb zd_Mo_newRound_76 rfl (lv_at hl 1 rfl) ?_
        obtain ⟨v16, e17, h⟩ := zb_o h
        refine za_iald hx hb hK hI e17 zd_Mo_newRound_77 ?_
        refine lv_imul hx hb zd_Mo_newRound_78 ?_
        refine lv_iadd hx hb zd_Mo_newRound_79 ?_
        refine lv_bipush (v := nI 29) hx hb zd_Mo_newRound_80 (by decide) ?_
        refine lv_imul hx hb zd_Mo_newRound_82 ?_
        refine lv_bipush (v := nI 101) hx hb zd_Mo_newRound_83 (by decide) ?_
        refine lv_irem hx hb zd_Mo_newRound_85 (by decide) ?_
        refine lv_istore (lv' := [(6, .int ((((((nI 37) * x5) + ((nI 61) * v12)) + ((nI 17) * v16)) * (nI 29)) - (((((nI 37) * x5) + ((nI 61) * v12)) + ((nI 17) * v16)) * (nI 29)) / (nI 101) * (nI 101))), (0, .ref a0), (1, .int x1), (2, .int x2), (3, .int x3), (4, .int x4), (5, .int x5)]) hx hb zd_Mo_newRound_86 hl (Nat.le_of_ble_eq_true rfl) rfl (fun ls hl => ?_)
        refine lv_iload_n hx hb zd_Mo_newRound_88 rfl (lv_at hl 3 rfl) ?_
        refine lv_iload hx hb zd_Mo_newRound_89 (lv_at hl 6 rfl) ?_
        refine lv_ishr hx hb zd_Mo_newRound_91 ?_
        refine lv_iconst (v := nI 1) hx hb zd_Mo_newRound_92 (by decide) ?_
        refine lv_iand hx hb zd_Mo_newRound_93 ?_
        refine lv_iconst (v := nI 1) hx hb zd_Mo_newRound_94 (by decide) ?_
        refine lv_icmp_ne hx hb (tgt := 112) zd_Mo_newRound_95 (by decide) (fun c18 => ?_) (fun c18 => ?_)
        · replace h := zb_f c18 h
          exact B112 _ ih _ _ ls a0 x1 x2 x3 x4 x5 σ hI (lv_sub hl [1, 2, 3, 4, 5, 6] rfl) h
        · replace h := zb_t c18 h
          refine lv_iload hx hb zd_Mo_newRound_98 (lv_at hl 0 rfl) ?_
          refine lv_iload hx hb zd_Mo_newRound_100 (lv_at hl 5 rfl) ?_
          refine lv_icmp_le hx hb (tgt := 112) zd_Mo_newRound_102 (by decide) (fun c19 => ?_) (fun c19 => ?_)
          · replace h := zb_t c19 h
            exact B112 _ ih _ _ ls a0 x1 x2 x3 x4 x5 σ hI (lv_sub hl [1, 2, 3, 4, 5, 6] rfl) h
          · replace h := zb_f c19 h
            refine lv_iload hx hb zd_Mo_newRound_105 (lv_at hl 6 rfl) ?_
            refine lv_istore_n (lv' := [(3, .int x5), (6, .int ((((((nI 37) * x5) + ((nI 61) * v12)) + ((nI 17) * v16)) * (nI 29)) - (((((nI 37) * x5) + ((nI 61) * v12)) + ((nI 17) * v16)) * (nI 29)) / (nI 101) * (nI 101))), (0, .ref a0), (1, .int x1), (2, .int x2), (4, .int x4), (5, .int x5)]) hx hb zd_Mo_newRound_107 rfl hl (Nat.le_of_ble_eq_true rfl) rfl (fun ls hl => ?_)
            refine lv_iload hx hb zd_Mo_newRound_108 (lv_at hl 1 rfl) ?_
            refine lv_istore (lv' := [(4, .int ((((((nI 37) * x5) + ((nI 61) * v12)) + ((nI 17) * v16)) * (nI 29)) - (((((nI 37) * x5) + ((nI 61) * v12)) + ((nI 17) * v16)) * (nI 29)) / (nI 101) * (nI 101))), (3, .int x5), (6, .int ((((((nI 37) * x5) + ((nI 61) * v12)) + ((nI 17) * v16)) * (nI 29)) - (((((nI 37) * x5) + ((nI 61) * v12)) + ((nI 17) * v16)) * (nI 29)) / (nI 101) * (nI 101))), (0, .ref a0), (1, .int x1), (2, .int x2), (5, .int x5)]) hx hb zd_Mo_newRound_110 hl (Nat.le_of_ble_eq_true rfl) rfl (fun ls hl => ?_)
            exact B112 _ ih _ _ ls a0 x1 x2 x5 ((((((nI 37) * x5) + ((nI 61) * v12)) + ((nI 17) * v16)) * (nI 29)) - (((((nI 37) * x5) + ((nI 61) * v12)) + ((nI 17) * v16)) * (nI 29)) / (nI 101) * (nI 101)) x5 σ hI (lv_sub hl [3, 4, 5, 1, 0, 6] rfl) h
  have B39 : ∀ (H : Heap) (locs : List Loc) (ls : Array Slot) (a0 : Nat) (x1 : Int32) (xs0 : Int32) (xs1 : Int32) (σ : za_h), za_I D ca n0 s σ H locs → lv_has ls 7 [(0, .ref a0), (1, .int x1)] → zf_Mo_newRound_39 a0 x1 xs0 xs1 σ = some (r, σ') → W p l e ({ frames := 0, cells := 0, slots := 0, locals := 0 }) s m ([.ref ay0, .int xy1] : List Value).toArray below meth c H locs 0 0 (MQ below (za_Qv D ca n0 r σ') ([.ref ay0, .int xy1] : List Value).toArray s 0 0 (za_A n0)) (F0 m 39 ls [.int xs1, .int xs0]) := by
    intro H locs ls a0 x1 xs0 xs1 σ hI hl h
    unfold zf_Mo_newRound_39 at h
    refine lv_ior hx hb zd_Mo_newRound_39 ?_
    refine lv_istore_n (lv' := [(2, .int (xs0 ||| xs1)), (0, .ref a0), (1, .int x1)]) hx hb zd_Mo_newRound_40 rfl hl (Nat.le_of_ble_eq_true rfl) rfl (fun ls hl => ?_)
    refine lv_iconst (v := -1) hx hb zd_Mo_newRound_41 (by decide) ?_
    refine lv_istore_n (lv' := [(3, .int (-1)), (2, .int (xs0 ||| xs1)), (0, .ref a0), (1, .int x1)]) hx hb zd_Mo_newRound_42 rfl hl (Nat.le_of_ble_eq_true rfl) rfl (fun ls hl => ?_)
    refine lv_iconst (v := -1) hx hb zd_Mo_newRound_43 (by decide) ?_
    refine lv_istore (lv' := [(4, .int (-1)), (3, .int (-1)), (2, .int (xs0 ||| xs1)), (0, .ref a0), (1, .int x1)]) hx hb zd_Mo_newRound_44 hl (Nat.le_of_ble_eq_true rfl) rfl (fun ls hl => ?_)
    refine lv_iconst (v := nI 0) hx hb zd_Mo_newRound_46 (by decide) ?_
    refine lv_istore (lv' := [(5, .int (nI 0)), (4, .int (-1)), (3, .int (-1)), (2, .int (xs0 ||| xs1)), (0, .ref a0), (1, .int x1)]) hx hb zd_Mo_newRound_47 hl (Nat.le_of_ble_eq_true rfl) rfl (fun ls hl => ?_)
    exact B49 6 _ _ ls a0 x1 (xs0 ||| xs1) (-1) (-1) (nI 0) σ hI (lv_sub hl [4, 5, 3, 2, 1, 0] rfl) h
  unfold zf_Mo_newRound at h
  refine lv_aload_n hx hb zd_Mo_newRound_0 rfl (lv_at hl 0 rfl) ?_
  obtain ⟨b2, e1, h⟩ := zb_o h
  refine za_getr hx hb hts hown hK hI zl_Mo_29 e1 zd_Mo_newRound_1 ?_
  refine lv_iload_n hx hb zd_Mo_newRound_4 rfl (lv_at hl 1 rfl) ?_
  refine lv_dup2_11 hx hb zd_Mo_newRound_5 rfl rfl ?_
  obtain ⟨v3, e4, h⟩ := zb_o h
  refine za_iald hx hb hK hI e4 zd_Mo_newRound_6 ?_
  refine lv_iconst (v := nI 1) hx hb zd_Mo_newRound_7 (by decide) ?_
  refine lv_iadd hx hb zd_Mo_newRound_8 ?_
  obtain ⟨σ5, e6, h⟩ := zb_o h
  refine za_iast hx hb hK hI e6 zd_Mo_newRound_9 (fun H locs hI => ?_)
  refine lv_aload_n hx hb zd_Mo_newRound_10 rfl (lv_at hl 0 rfl) ?_
  obtain ⟨b8, e7, h⟩ := zb_o h
  refine za_getr hx hb hts hown hK hI zl_Mo_13 e7 zd_Mo_newRound_11 ?_
  refine lv_iload_n hx hb zd_Mo_newRound_14 rfl (lv_at hl 1 rfl) ?_
  obtain ⟨v9, e10, h⟩ := zb_o h
  refine za_iald hx hb hK hI e10 zd_Mo_newRound_15 ?_
  refine lv_iconst (v := nI 1) hx hb zd_Mo_newRound_16 (by decide) ?_
  refine lv_iload_n hx hb zd_Mo_newRound_17 rfl (lv_at hl 1 rfl) ?_
  refine lv_ishl hx hb zd_Mo_newRound_18 ?_
  refine lv_ior hx hb zd_Mo_newRound_19 ?_
  refine lv_aload_n hx hb zd_Mo_newRound_20 rfl (lv_at hl 0 rfl) ?_
  obtain ⟨b12, e11, h⟩ := zb_o h
  refine za_getr hx hb hts hown hK hI zl_Mo_16 e11 zd_Mo_newRound_21 ?_
  refine lv_iload_n hx hb zd_Mo_newRound_24 rfl (lv_at hl 1 rfl) ?_
  obtain ⟨v13, e14, h⟩ := zb_o h
  refine za_iald hx hb hK hI e14 zd_Mo_newRound_25 ?_
  refine lv_if_le hx hb (tgt := 38) zd_Mo_newRound_26 (by decide) (fun c15 => ?_) (fun c15 => ?_)
  · replace h := zb_t c15 h
    refine lv_iconst (v := nI 0) hx hb zd_Mo_newRound_38 (by decide) ?_
    exact B39 _ _ ls ay0 xy1 (v9 ||| ((nI 1) <<< (xy1 &&& 31))) (nI 0) σ5 hI (lv_sub hl [0, 1] rfl) h
  · replace h := zb_f c15 h
    refine lv_aload_n hx hb zd_Mo_newRound_29 rfl (lv_at hl 0 rfl) ?_
    obtain ⟨b17, e16, h⟩ := zb_o h
    refine za_getr hx hb hts hown hK hI zl_Mo_19 e16 zd_Mo_newRound_30 ?_
    refine lv_iload_n hx hb zd_Mo_newRound_33 rfl (lv_at hl 1 rfl) ?_
    obtain ⟨v18, e19, h⟩ := zb_o h
    refine za_iald hx hb hK hI e19 zd_Mo_newRound_34 ?_
    refine lv_goto hx hb (tgt := 39) zd_Mo_newRound_35 (by decide) ?_
    exact B39 _ _ ls ay0 xy1 (v9 ||| ((nI 1) <<< (xy1 &&& 31))) v18 σ5 hI (lv_sub hl [0, 1] rfl) h

def zf_Mo_propose_37  (σ : za_h) : Option (Int32 × za_h) :=
  some ((nI 0), σ)

def zf_Mo_propose_65 (a0 : Nat) (x1 : Int32) (σ : za_h) : Option (Int32 × za_h) :=
  (zg_c σ a0 10).bind fun _ =>
  (zf_Mo_stir a0 x1 σ).bind fun (_, σ3) =>
  some ((nI 1), σ3)

def zf_Mo_propose (ay0 : Nat) (xy1 : Int32) (xy2 : Int32) (σ : za_h) : Option (Int32 × za_h) :=
  (zg_c σ ay0 10).bind fun _ =>
  (zf_Mo_good ay0 xy1 σ).bind fun (r2, σ3) =>
  if r2 = 0 then
  (zf_Mo_propose_37 σ3)
  else
  ((zf_Mo_in xy2 (nI 1) (nI 7) σ3).bind fun (r6, σ7) =>
  if r6 = 0 then
  (zf_Mo_propose_37 σ7)
  else
  ((zg_r σ7 ay0 10 7).bind fun b11 =>
  (za_ld σ7 b11 0 xy1).bind fun v12 =>
  if v12 = (nI 3) then
  (zf_Mo_propose_37 σ7)
  else
  ((zg_r σ7 ay0 10 11).bind fun b16 =>
  (za_ld σ7 b16 0 xy1).bind fun v17 =>
  if v17 ≤ 0 then
  ((zp_f σ7 ay0 10 1 (.int (nI 1))).bind fun σ21 =>
  (zg_r σ21 ay0 10 11).bind fun b23 =>
  (za_st σ21 b23 0 xy1 xy2).bind fun σ24 =>
  (zg_r σ24 ay0 10 8).bind fun b27 =>
  (za_ld σ24 b27 0 xy1).bind fun v28 =>
  if v28 = 0 then
  ((zg_c σ24 ay0 10).bind fun _ =>
  (zf_Mo_newRound ay0 xy1 σ24).bind fun (_, σ33) =>
  zf_Mo_propose_65 ay0 xy1 σ33)
  else
  (zf_Mo_propose_65 ay0 xy1 σ24))
  else
  (zf_Mo_propose_37 σ7))))
set_option maxRecDepth 100000 in
set_option maxHeartbeats 4000000 in
theorem zm_Mo_propose {l : Launch} {D : va_G} {ca : Nat → ClassId} {n0 : Nat} {ay0 : Nat} {xy1 : Int32} {xy2 : Int32} {σ σ' : za_h} {r : Int32} (h : zf_Mo_propose ay0 xy1 xy2 σ = some (r, σ')) : Met l zy_Mo_propose (za_wy zy_Mo_propose zc_Mo_propose 3 (some .boolean)) { frames := 7, cells := 0, slots := 0, locals := 176 } (za_Pc D ca n0 [.ref ay0, .int xy1, .int xy2] σ) (za_Qi D ca n0 r σ') 0 0 (za_A n0) := by
  refine za_met (by decide) (Nat.le_of_ble_eq_true rfl) ?_
  intro p e s m below meth c ls hx hb hml hr hlk hts hown hnm hK hI hl
  replace hown : s.vm.findClass zR_Mo = some m.cls := hown
  replace hl : lv_has ls 3 [(0, .ref ay0), (1, .int xy1), (2, .int xy2)] := hl
  have B37 : ∀ (H : Heap) (locs : List Loc) (ls : Array Slot) (σ : za_h), za_I D ca n0 s σ H locs → lv_has ls 3 [] → zf_Mo_propose_37 σ = some (r, σ') → W p l e ({ frames := 7, cells := 0, slots := 0, locals := 176 }) s m ([.ref ay0, .int xy1, .int xy2] : List Value).toArray below meth c H locs 0 0 (MQ below (za_Qi D ca n0 r σ') ([.ref ay0, .int xy1, .int xy2] : List Value).toArray s 0 0 (za_A n0)) (F0 m 37 ls []) := by
    intro H locs ls σ hI hl h
    unfold zf_Mo_propose_37 at h
    refine lv_iconst (v := nI 0) hx hb zd_Mo_propose_37 (by decide) ?_
    exact za_zret hx hb hr hlk hI (by decide) h (Nat.le_of_ble_eq_true rfl) (Nat.le_of_ble_eq_true rfl) zd_Mo_propose_38
  have B65 : ∀ (H : Heap) (locs : List Loc) (ls : Array Slot) (a0 : Nat) (x1 : Int32) (σ : za_h), za_I D ca n0 s σ H locs → lv_has ls 3 [(0, .ref a0), (1, .int x1)] → zf_Mo_propose_65 a0 x1 σ = some (r, σ') → W p l e ({ frames := 7, cells := 0, slots := 0, locals := 176 }) s m ([.ref ay0, .int xy1, .int xy2] : List Value).toArray below meth c H locs 0 0 (MQ below (za_Qi D ca n0 r σ') ([.ref ay0, .int xy1, .int xy2] : List Value).toArray s 0 0 (za_A n0)) (F0 m 65 ls []) := by
    intro H locs ls a0 x1 σ hI hl h
    unfold zf_Mo_propose_65 at h
    refine lv_aload_n hx hb zd_Mo_propose_65 rfl (lv_at hl 0 rfl) ?_
    refine lv_iload_n hx hb zd_Mo_propose_66 rfl (lv_at hl 1 rfl) ?_
    obtain ⟨_, g1, h⟩ := zb_o h
    obtain ⟨⟨r2, σ3⟩, e4, h⟩ := zb_o h
    refine za_callv (za_runV hx hb hml hown hts hK hI g1 (zm_Mo_stir e4) zj_Mo_197 ⟨rfl, rfl⟩ ⟨Nat.le_of_ble_eq_true rfl, Nat.le_of_ble_eq_true rfl⟩ rfl hl.1 rfl (Nat.le_of_ble_eq_true rfl) zd_Mo_propose_67 ⟨Nat.le_of_ble_eq_true rfl, Nat.le_of_ble_eq_true rfl⟩) hI (fun H locs hI => ?_)
    refine lv_iconst (v := nI 1) hx hb zd_Mo_propose_70 (by decide) ?_
    exact za_zret hx hb hr hlk hI (by decide) h (Nat.le_of_ble_eq_true rfl) (Nat.le_of_ble_eq_true rfl) zd_Mo_propose_71
  unfold zf_Mo_propose at h
  refine lv_aload_n hx hb zd_Mo_propose_0 rfl (lv_at hl 0 rfl) ?_
  refine lv_iload_n hx hb zd_Mo_propose_1 rfl (lv_at hl 1 rfl) ?_
  obtain ⟨_, g1, h⟩ := zb_o h
  obtain ⟨⟨r2, σ3⟩, e4, h⟩ := zb_o h
  refine za_calli (za_runV hx hb hml hown hts hK hI g1 (zm_Mo_good e4) zj_Mo_190 ⟨rfl, rfl⟩ ⟨Nat.le_of_ble_eq_true rfl, Nat.le_of_ble_eq_true rfl⟩ rfl hl.1 rfl (Nat.le_of_ble_eq_true rfl) zd_Mo_propose_2 ⟨Nat.le_of_ble_eq_true rfl, Nat.le_of_ble_eq_true rfl⟩) hI (fun H locs hI => ?_)
  refine lv_if_eq hx hb (tgt := 37) zd_Mo_propose_5 (by decide) (fun c5 => ?_) (fun c5 => ?_)
  · replace h := zb_t c5 h
    exact B37 _ _ ls σ3 hI (lv_sub hl [] rfl) h
  · replace h := zb_f c5 h
    refine lv_iload_n hx hb zd_Mo_propose_8 rfl (lv_at hl 2 rfl) ?_
    refine lv_iconst (v := nI 1) hx hb zd_Mo_propose_9 (by decide) ?_
    refine lv_bipush (v := nI 7) hx hb zd_Mo_propose_10 (by decide) ?_
    obtain ⟨⟨r6, σ7⟩, e8, h⟩ := zb_o h
    refine za_calli (za_runS hx hb hml hown hts hK hI (zm_Mo_in e8) zj_Mo_105 ⟨rfl, rfl⟩ ⟨Nat.le_of_ble_eq_true rfl, Nat.le_of_ble_eq_true rfl⟩ rfl hl.1 rfl (Nat.le_of_ble_eq_true rfl) zd_Mo_propose_12 ⟨Nat.le_of_ble_eq_true rfl, Nat.le_of_ble_eq_true rfl⟩) hI (fun H locs hI => ?_)
    refine lv_if_eq hx hb (tgt := 37) zd_Mo_propose_15 (by decide) (fun c9 => ?_) (fun c9 => ?_)
    · replace h := zb_t c9 h
      exact B37 _ _ ls σ7 hI (lv_sub hl [] rfl) h
    · replace h := zb_f c9 h
      refine lv_aload_n hx hb zd_Mo_propose_18 rfl (lv_at hl 0 rfl) ?_
      obtain ⟨b11, e10, h⟩ := zb_o h
      refine za_getr hx hb hts hown hK hI zl_Mo_26 e10 zd_Mo_propose_19 ?_
      refine lv_iload_n hx hb zd_Mo_propose_22 rfl (lv_at hl 1 rfl) ?_
      obtain ⟨v12, e13, h⟩ := zb_o h
      refine za_iald hx hb hK hI e13 zd_Mo_propose_23 ?_
      refine lv_iconst (v := nI 3) hx hb zd_Mo_propose_24 (by decide) ?_
      refine lv_icmp_eq hx hb (tgt := 37) zd_Mo_propose_25 (by decide) (fun c14 => ?_) (fun c14 => ?_)
      · replace h := zb_t c14 h
        exact B37 _ _ ls σ7 hI (lv_sub hl [] rfl) h
      · replace h := zb_f c14 h
        refine lv_aload_n hx hb zd_Mo_propose_28 rfl (lv_at hl 0 rfl) ?_
        obtain ⟨b16, e15, h⟩ := zb_o h
        refine za_getr hx hb hts hown hK hI zl_Mo_38 e15 zd_Mo_propose_29 ?_
        refine lv_iload_n hx hb zd_Mo_propose_32 rfl (lv_at hl 1 rfl) ?_
        obtain ⟨v17, e18, h⟩ := zb_o h
        refine za_iald hx hb hK hI e18 zd_Mo_propose_33 ?_
        refine lv_if_le hx hb (tgt := 39) zd_Mo_propose_34 (by decide) (fun c19 => ?_) (fun c19 => ?_)
        · replace h := zb_t c19 h
          refine lv_aload_n hx hb zd_Mo_propose_39 rfl (lv_at hl 0 rfl) ?_
          refine lv_iconst (v := nI 1) hx hb zd_Mo_propose_40 (by decide) ?_
          obtain ⟨σ21, e20, h⟩ := zb_o h
          refine za_put hx hb hts hown hK hI zl_Mo_117 e20 (by decide +kernel) (by decide +kernel) zd_Mo_propose_41 (fun H locs hI => ?_)
          refine lv_aload_n hx hb zd_Mo_propose_44 rfl (lv_at hl 0 rfl) ?_
          obtain ⟨b23, e22, h⟩ := zb_o h
          refine za_getr hx hb hts hown hK hI zl_Mo_38 e22 zd_Mo_propose_45 ?_
          refine lv_iload_n hx hb zd_Mo_propose_48 rfl (lv_at hl 1 rfl) ?_
          refine lv_iload_n hx hb zd_Mo_propose_49 rfl (lv_at hl 2 rfl) ?_
          obtain ⟨σ24, e25, h⟩ := zb_o h
          refine za_iast hx hb hK hI e25 zd_Mo_propose_50 (fun H locs hI => ?_)
          refine lv_aload_n hx hb zd_Mo_propose_51 rfl (lv_at hl 0 rfl) ?_
          obtain ⟨b27, e26, h⟩ := zb_o h
          refine za_getr hx hb hts hown hK hI zl_Mo_29 e26 zd_Mo_propose_52 ?_
          refine lv_iload_n hx hb zd_Mo_propose_55 rfl (lv_at hl 1 rfl) ?_
          obtain ⟨v28, e29, h⟩ := zb_o h
          refine za_iald hx hb hK hI e29 zd_Mo_propose_56 ?_
          refine lv_if_ne hx hb (tgt := 65) zd_Mo_propose_57 (by decide) (fun c30 => ?_) (fun c30 => ?_)
          · replace h := zb_f c30 h
            exact B65 _ _ ls ay0 xy1 σ24 hI (lv_sub hl [0, 1] rfl) h
          · replace h := zb_t c30 h
            refine lv_aload_n hx hb zd_Mo_propose_60 rfl (lv_at hl 0 rfl) ?_
            refine lv_iload_n hx hb zd_Mo_propose_61 rfl (lv_at hl 1 rfl) ?_
            obtain ⟨_, g31, h⟩ := zb_o h
            obtain ⟨⟨r32, σ33⟩, e34, h⟩ := zb_o h
            refine za_callv (za_runV hx hb hml hown hts hK hI g31 (zm_Mo_newRound e34) zj_Mo_193 ⟨rfl, rfl⟩ ⟨Nat.le_of_ble_eq_true rfl, Nat.le_of_ble_eq_true rfl⟩ rfl hl.1 rfl (Nat.le_of_ble_eq_true rfl) zd_Mo_propose_62 ⟨Nat.le_of_ble_eq_true rfl, Nat.le_of_ble_eq_true rfl⟩) hI (fun H locs hI => ?_)
            exact B65 _ _ ls ay0 xy1 σ33 hI (lv_sub hl [0, 1] rfl) h
        · replace h := zb_f c19 h
          exact B37 _ _ ls σ7 hI (lv_sub hl [] rfl) h

def zf_Mo_timeout_27  (σ : za_h) : Option (Int32 × za_h) :=
  some ((nI 0), σ)

def zf_Mo_timeout_76 (a0 : Nat) (x1 : Int32) (σ : za_h) : Option (Int32 × za_h) :=
  (zg_c σ a0 10).bind fun _ =>
  (zf_Mo_stir a0 x1 σ).bind fun (_, σ3) =>
  some ((nI 1), σ3)

def zf_Mo_timeout (ay0 : Nat) (xy1 : Int32) (σ : za_h) : Option (Int32 × za_h) :=
  (zg_c σ ay0 10).bind fun _ =>
  (zf_Mo_good ay0 xy1 σ).bind fun (r2, σ3) =>
  if r2 = 0 then
  (zf_Mo_timeout_27 σ3)
  else
  ((zg_r σ3 ay0 10 7).bind fun b7 =>
  (za_ld σ3 b7 0 xy1).bind fun v8 =>
  if v8 = (nI 3) then
  (zf_Mo_timeout_27 σ3)
  else
  ((zg_r σ3 ay0 10 8).bind fun b12 =>
  (za_ld σ3 b12 0 xy1).bind fun v13 =>
  if v13 = 0 then
  (zf_Mo_timeout_27 σ3)
  else
  ((zp_f σ3 ay0 10 1 (.int (nI 1))).bind fun σ17 =>
  (zg_c σ17 ay0 10).bind fun _ =>
  (zf_Mo_composite ay0 xy1 σ17).bind fun (r19, σ20) =>
  if r19 = 0 then
  ((zg_c σ20 ay0 10).bind fun _ =>
  (zf_Mo_newRound ay0 xy1 σ20).bind fun (_, σ40) =>
  zf_Mo_timeout_76 ay0 xy1 σ40)
  else
  ((zg_r σ20 ay0 10 10).bind fun b24 =>
  (za_ld σ20 b24 0 xy1).bind fun v25 =>
  if (nI 4) ≤ v25 then
  (zf_Mo_timeout_76 ay0 xy1 σ20)
  else
  ((zg_r σ20 ay0 10 10).bind fun b29 =>
  (za_ld σ20 b29 0 xy1).bind fun v30 =>
  (za_st σ20 b29 0 xy1 (v30 + (nI 1))).bind fun σ32 =>
  (zg_c σ32 ay0 10).bind fun _ =>
  (zf_Mo_votePrepare ay0 xy1 σ32).bind fun (r35, σ36) =>
  zf_Mo_timeout_76 ay0 xy1 σ36)))))
set_option maxRecDepth 100000 in
set_option maxHeartbeats 4000000 in
theorem zm_Mo_timeout {l : Launch} {D : va_G} {ca : Nat → ClassId} {n0 : Nat} {ay0 : Nat} {xy1 : Int32} {σ σ' : za_h} {r : Int32} (h : zf_Mo_timeout ay0 xy1 σ = some (r, σ')) : Met l zy_Mo_timeout (za_wy zy_Mo_timeout zc_Mo_timeout 2 (some .boolean)) { frames := 7, cells := 0, slots := 0, locals := 176 } (za_Pc D ca n0 [.ref ay0, .int xy1] σ) (za_Qi D ca n0 r σ') 0 0 (za_A n0) := by
  refine za_met (by decide) (Nat.le_of_ble_eq_true rfl) ?_
  intro p e s m below meth c ls hx hb hml hr hlk hts hown hnm hK hI hl
  replace hown : s.vm.findClass zR_Mo = some m.cls := hown
  replace hl : lv_has ls 2 [(0, .ref ay0), (1, .int xy1)] := hl
  have B27 : ∀ (H : Heap) (locs : List Loc) (ls : Array Slot) (σ : za_h), za_I D ca n0 s σ H locs → lv_has ls 2 [] → zf_Mo_timeout_27 σ = some (r, σ') → W p l e ({ frames := 7, cells := 0, slots := 0, locals := 176 }) s m ([.ref ay0, .int xy1] : List Value).toArray below meth c H locs 0 0 (MQ below (za_Qi D ca n0 r σ') ([.ref ay0, .int xy1] : List Value).toArray s 0 0 (za_A n0)) (F0 m 27 ls []) := by
    intro H locs ls σ hI hl h
    unfold zf_Mo_timeout_27 at h
    refine lv_iconst (v := nI 0) hx hb zd_Mo_timeout_27 (by decide) ?_
    exact za_zret hx hb hr hlk hI (by decide) h (Nat.le_of_ble_eq_true rfl) (Nat.le_of_ble_eq_true rfl) zd_Mo_timeout_28
  have B76 : ∀ (H : Heap) (locs : List Loc) (ls : Array Slot) (a0 : Nat) (x1 : Int32) (σ : za_h), za_I D ca n0 s σ H locs → lv_has ls 2 [(0, .ref a0), (1, .int x1)] → zf_Mo_timeout_76 a0 x1 σ = some (r, σ') → W p l e ({ frames := 7, cells := 0, slots := 0, locals := 176 }) s m ([.ref ay0, .int xy1] : List Value).toArray below meth c H locs 0 0 (MQ below (za_Qi D ca n0 r σ') ([.ref ay0, .int xy1] : List Value).toArray s 0 0 (za_A n0)) (F0 m 76 ls []) := by
    intro H locs ls a0 x1 σ hI hl h
    unfold zf_Mo_timeout_76 at h
    refine lv_aload_n hx hb zd_Mo_timeout_76 rfl (lv_at hl 0 rfl) ?_
    refine lv_iload_n hx hb zd_Mo_timeout_77 rfl (lv_at hl 1 rfl) ?_
    obtain ⟨_, g1, h⟩ := zb_o h
    obtain ⟨⟨r2, σ3⟩, e4, h⟩ := zb_o h
    refine za_callv (za_runV hx hb hml hown hts hK hI g1 (zm_Mo_stir e4) zj_Mo_197 ⟨rfl, rfl⟩ ⟨Nat.le_of_ble_eq_true rfl, Nat.le_of_ble_eq_true rfl⟩ rfl hl.1 rfl (Nat.le_of_ble_eq_true rfl) zd_Mo_timeout_78 ⟨Nat.le_of_ble_eq_true rfl, Nat.le_of_ble_eq_true rfl⟩) hI (fun H locs hI => ?_)
    refine lv_iconst (v := nI 1) hx hb zd_Mo_timeout_81 (by decide) ?_
    exact za_zret hx hb hr hlk hI (by decide) h (Nat.le_of_ble_eq_true rfl) (Nat.le_of_ble_eq_true rfl) zd_Mo_timeout_82
  unfold zf_Mo_timeout at h
  refine lv_aload_n hx hb zd_Mo_timeout_0 rfl (lv_at hl 0 rfl) ?_
  refine lv_iload_n hx hb zd_Mo_timeout_1 rfl (lv_at hl 1 rfl) ?_
  obtain ⟨_, g1, h⟩ := zb_o h
  obtain ⟨⟨r2, σ3⟩, e4, h⟩ := zb_o h
  refine za_calli (za_runV hx hb hml hown hts hK hI g1 (zm_Mo_good e4) zj_Mo_190 ⟨rfl, rfl⟩ ⟨Nat.le_of_ble_eq_true rfl, Nat.le_of_ble_eq_true rfl⟩ rfl hl.1 rfl (Nat.le_of_ble_eq_true rfl) zd_Mo_timeout_2 ⟨Nat.le_of_ble_eq_true rfl, Nat.le_of_ble_eq_true rfl⟩) hI (fun H locs hI => ?_)
  refine lv_if_eq hx hb (tgt := 27) zd_Mo_timeout_5 (by decide) (fun c5 => ?_) (fun c5 => ?_)
  · replace h := zb_t c5 h
    exact B27 _ _ ls σ3 hI (lv_sub hl [] rfl) h
  · replace h := zb_f c5 h
    refine lv_aload_n hx hb zd_Mo_timeout_8 rfl (lv_at hl 0 rfl) ?_
    obtain ⟨b7, e6, h⟩ := zb_o h
    refine za_getr hx hb hts hown hK hI zl_Mo_26 e6 zd_Mo_timeout_9 ?_
    refine lv_iload_n hx hb zd_Mo_timeout_12 rfl (lv_at hl 1 rfl) ?_
    obtain ⟨v8, e9, h⟩ := zb_o h
    refine za_iald hx hb hK hI e9 zd_Mo_timeout_13 ?_
    refine lv_iconst (v := nI 3) hx hb zd_Mo_timeout_14 (by decide) ?_
    refine lv_icmp_eq hx hb (tgt := 27) zd_Mo_timeout_15 (by decide) (fun c10 => ?_) (fun c10 => ?_)
    · replace h := zb_t c10 h
      exact B27 _ _ ls σ3 hI (lv_sub hl [] rfl) h
    · replace h := zb_f c10 h
      refine lv_aload_n hx hb zd_Mo_timeout_18 rfl (lv_at hl 0 rfl) ?_
      obtain ⟨b12, e11, h⟩ := zb_o h
      refine za_getr hx hb hts hown hK hI zl_Mo_29 e11 zd_Mo_timeout_19 ?_
      refine lv_iload_n hx hb zd_Mo_timeout_22 rfl (lv_at hl 1 rfl) ?_
      obtain ⟨v13, e14, h⟩ := zb_o h
      refine za_iald hx hb hK hI e14 zd_Mo_timeout_23 ?_
      refine lv_if_ne hx hb (tgt := 29) zd_Mo_timeout_24 (by decide) (fun c15 => ?_) (fun c15 => ?_)
      · replace h := zb_f c15 h
        refine lv_aload_n hx hb zd_Mo_timeout_29 rfl (lv_at hl 0 rfl) ?_
        refine lv_iconst (v := nI 1) hx hb zd_Mo_timeout_30 (by decide) ?_
        obtain ⟨σ17, e16, h⟩ := zb_o h
        refine za_put hx hb hts hown hK hI zl_Mo_117 e16 (by decide +kernel) (by decide +kernel) zd_Mo_timeout_31 (fun H locs hI => ?_)
        refine lv_aload_n hx hb zd_Mo_timeout_34 rfl (lv_at hl 0 rfl) ?_
        refine lv_iload_n hx hb zd_Mo_timeout_35 rfl (lv_at hl 1 rfl) ?_
        obtain ⟨_, g18, h⟩ := zb_o h
        obtain ⟨⟨r19, σ20⟩, e21, h⟩ := zb_o h
        refine za_calli (za_runV hx hb hml hown hts hK hI g18 (zm_Mo_composite e21) zj_Mo_146 ⟨rfl, rfl⟩ ⟨Nat.le_of_ble_eq_true rfl, Nat.le_of_ble_eq_true rfl⟩ rfl hl.1 rfl (Nat.le_of_ble_eq_true rfl) zd_Mo_timeout_36 ⟨Nat.le_of_ble_eq_true rfl, Nat.le_of_ble_eq_true rfl⟩) hI (fun H locs hI => ?_)
        refine lv_if_ne hx hb (tgt := 50) zd_Mo_timeout_39 (by decide) (fun c22 => ?_) (fun c22 => ?_)
        · replace h := zb_f c22 h
          refine lv_aload_n hx hb zd_Mo_timeout_50 rfl (lv_at hl 0 rfl) ?_
          obtain ⟨b24, e23, h⟩ := zb_o h
          refine za_getr hx hb hts hown hK hI zl_Mo_35 e23 zd_Mo_timeout_51 ?_
          refine lv_iload_n hx hb zd_Mo_timeout_54 rfl (lv_at hl 1 rfl) ?_
          obtain ⟨v25, e26, h⟩ := zb_o h
          refine za_iald hx hb hK hI e26 zd_Mo_timeout_55 ?_
          refine lv_iconst (v := nI 4) hx hb zd_Mo_timeout_56 (by decide) ?_
          refine lv_icmp_ge hx hb (tgt := 76) zd_Mo_timeout_57 (by decide) (fun c27 => ?_) (fun c27 => ?_)
          · replace h := zb_t c27 h
            exact B76 _ _ ls ay0 xy1 σ20 hI (lv_sub hl [0, 1] rfl) h
          · replace h := zb_f c27 h
            refine lv_aload_n hx hb zd_Mo_timeout_60 rfl (lv_at hl 0 rfl) ?_
            obtain ⟨b29, e28, h⟩ := zb_o h
            refine za_getr hx hb hts hown hK hI zl_Mo_35 e28 zd_Mo_timeout_61 ?_
            refine lv_iload_n hx hb zd_Mo_timeout_64 rfl (lv_at hl 1 rfl) ?_
            refine lv_dup2_11 hx hb zd_Mo_timeout_65 rfl rfl ?_
            obtain ⟨v30, e31, h⟩ := zb_o h
            refine za_iald hx hb hK hI e31 zd_Mo_timeout_66 ?_
            refine lv_iconst (v := nI 1) hx hb zd_Mo_timeout_67 (by decide) ?_
            refine lv_iadd hx hb zd_Mo_timeout_68 ?_
            obtain ⟨σ32, e33, h⟩ := zb_o h
            refine za_iast hx hb hK hI e33 zd_Mo_timeout_69 (fun H locs hI => ?_)
            refine lv_aload_n hx hb zd_Mo_timeout_70 rfl (lv_at hl 0 rfl) ?_
            refine lv_iload_n hx hb zd_Mo_timeout_71 rfl (lv_at hl 1 rfl) ?_
            obtain ⟨_, g34, h⟩ := zb_o h
            obtain ⟨⟨r35, σ36⟩, e37, h⟩ := zb_o h
            refine za_calli (za_runV hx hb hml hown hts hK hI g34 (zm_Mo_votePrepare e37) zj_Mo_161 ⟨rfl, rfl⟩ ⟨Nat.le_of_ble_eq_true rfl, Nat.le_of_ble_eq_true rfl⟩ rfl hl.1 rfl (Nat.le_of_ble_eq_true rfl) zd_Mo_timeout_72 ⟨Nat.le_of_ble_eq_true rfl, Nat.le_of_ble_eq_true rfl⟩) hI (fun H locs hI => ?_)
            refine lv_pop hx hb zd_Mo_timeout_75 rfl ?_
            exact B76 _ _ ls ay0 xy1 σ36 hI (lv_sub hl [0, 1] rfl) h
        · replace h := zb_t c22 h
          refine lv_aload_n hx hb zd_Mo_timeout_42 rfl (lv_at hl 0 rfl) ?_
          refine lv_iload_n hx hb zd_Mo_timeout_43 rfl (lv_at hl 1 rfl) ?_
          obtain ⟨_, g38, h⟩ := zb_o h
          obtain ⟨⟨r39, σ40⟩, e41, h⟩ := zb_o h
          refine za_callv (za_runV hx hb hml hown hts hK hI g38 (zm_Mo_newRound e41) zj_Mo_193 ⟨rfl, rfl⟩ ⟨Nat.le_of_ble_eq_true rfl, Nat.le_of_ble_eq_true rfl⟩ rfl hl.1 rfl (Nat.le_of_ble_eq_true rfl) zd_Mo_timeout_44 ⟨Nat.le_of_ble_eq_true rfl, Nat.le_of_ble_eq_true rfl⟩) hI (fun H locs hI => ?_)
          refine lv_goto hx hb (tgt := 76) zd_Mo_timeout_47 (by decide) ?_
          exact B76 _ _ ls ay0 xy1 σ40 hI (lv_sub hl [0, 1] rfl) h
      · replace h := zb_t c15 h
        exact B27 _ _ ls σ3 hI (lv_sub hl [] rfl) h

def zf_Mo_sealed (ay0 : Nat) (xy1 : Int32) (xy2 : Int32) (σ : za_h) : Option (Int32 × za_h) :=
  (zg_r σ ay0 10 17).bind fun b2 =>
  (zg_i σ ay0 10 16).bind fun v4 =>
  (za_st σ b2 0 v4 xy1).bind fun σ5 =>
  (zg_r σ5 ay0 10 18).bind fun b8 =>
  (zg_i σ5 ay0 10 16).bind fun v10 =>
  (za_st σ5 b8 0 v10 xy2).bind fun σ11 =>
  (zg_i σ11 ay0 10 16).bind fun v14 =>
  (zp_f σ11 ay0 10 16 (.int (v14 + (nI 1)))).bind fun σ16 =>
  (zg_i σ16 ay0 10 16).bind fun v18 =>
  some ((v18 - (nI 1)), σ16)
set_option maxRecDepth 100000 in
set_option maxHeartbeats 4000000 in
theorem zm_Mo_sealed {l : Launch} {D : va_G} {ca : Nat → ClassId} {n0 : Nat} {ay0 : Nat} {xy1 : Int32} {xy2 : Int32} {σ σ' : za_h} {r : Int32} (h : zf_Mo_sealed ay0 xy1 xy2 σ = some (r, σ')) : Met l zy_Mo_sealed (za_wy zy_Mo_sealed zc_Mo_sealed 3 (some .int)) { frames := 0, cells := 0, slots := 0, locals := 0 } (za_Pc D ca n0 [.ref ay0, .int xy1, .int xy2] σ) (za_Qi D ca n0 r σ') 0 0 (za_A n0) := by
  refine za_met (by decide) (Nat.le_of_ble_eq_true rfl) ?_
  intro p e s m below meth c ls hx hb hml hr hlk hts hown hnm hK hI hl
  replace hown : s.vm.findClass zR_Mo = some m.cls := hown
  replace hl : lv_has ls 3 [(0, .ref ay0), (1, .int xy1), (2, .int xy2)] := hl
  unfold zf_Mo_sealed at h
  refine lv_aload_n hx hb zd_Mo_sealed_0 rfl (lv_at hl 0 rfl) ?_
  obtain ⟨b2, e1, h⟩ := zb_o h
  refine za_getr hx hb hts hown hK hI zl_Mo_53 e1 zd_Mo_sealed_1 ?_
  refine lv_aload_n hx hb zd_Mo_sealed_4 rfl (lv_at hl 0 rfl) ?_
  obtain ⟨v4, e3, h⟩ := zb_o h
  refine za_geti hx hb hts hown hK hI zl_Mo_200 e3 zd_Mo_sealed_5 ?_
  refine lv_iload_n hx hb zd_Mo_sealed_8 rfl (lv_at hl 1 rfl) ?_
  obtain ⟨σ5, e6, h⟩ := zb_o h
  refine za_iast hx hb hK hI e6 zd_Mo_sealed_9 (fun H locs hI => ?_)
  refine lv_aload_n hx hb zd_Mo_sealed_10 rfl (lv_at hl 0 rfl) ?_
  obtain ⟨b8, e7, h⟩ := zb_o h
  refine za_getr hx hb hts hown hK hI zl_Mo_56 e7 zd_Mo_sealed_11 ?_
  refine lv_aload_n hx hb zd_Mo_sealed_14 rfl (lv_at hl 0 rfl) ?_
  obtain ⟨v10, e9, h⟩ := zb_o h
  refine za_geti hx hb hts hown hK hI zl_Mo_200 e9 zd_Mo_sealed_15 ?_
  refine lv_iload_n hx hb zd_Mo_sealed_18 rfl (lv_at hl 2 rfl) ?_
  obtain ⟨σ11, e12, h⟩ := zb_o h
  refine za_iast hx hb hK hI e12 zd_Mo_sealed_19 (fun H locs hI => ?_)
  refine lv_aload_n hx hb zd_Mo_sealed_20 rfl (lv_at hl 0 rfl) ?_
  refine lv_dup hx hb zd_Mo_sealed_21 rfl ?_
  obtain ⟨v14, e13, h⟩ := zb_o h
  refine za_geti hx hb hts hown hK hI zl_Mo_200 e13 zd_Mo_sealed_22 ?_
  refine lv_iconst (v := nI 1) hx hb zd_Mo_sealed_25 (by decide) ?_
  refine lv_iadd hx hb zd_Mo_sealed_26 ?_
  obtain ⟨σ16, e15, h⟩ := zb_o h
  refine za_put hx hb hts hown hK hI zl_Mo_200 e15 rfl rfl zd_Mo_sealed_27 (fun H locs hI => ?_)
  refine lv_aload_n hx hb zd_Mo_sealed_30 rfl (lv_at hl 0 rfl) ?_
  obtain ⟨v18, e17, h⟩ := zb_o h
  refine za_geti hx hb hts hown hK hI zl_Mo_200 e17 zd_Mo_sealed_31 ?_
  refine lv_iconst (v := nI 1) hx hb zd_Mo_sealed_34 (by decide) ?_
  refine lv_isub hx hb zd_Mo_sealed_35 ?_
  exact za_iret hx hb hr hlk hI h (Nat.le_of_ble_eq_true rfl) (Nat.le_of_ble_eq_true rfl) zd_Mo_sealed_36

def zf_Mo_post_36  (σ : za_h) : Option (Int32 × za_h) :=
  some ((-1), σ)

def zf_Mo_post_45 : Nat → Nat → Int32 → Int32 → Int32 → za_h → Option (Int32 × za_h)
  | 0, _, _, _, _, _ => none
  | n + 1, a0, x1, x2, x3, σ =>
  if (nI 3) ≤ x3 then
  ((zg_c σ a0 10).bind fun _ =>
  (zf_Mo_sealed a0 x1 x2 σ).bind fun (r3, σ4) =>
  some (r3, σ4))
  else
  ((zg_r σ a0 10 19).bind fun b7 =>
  (zg_i σ a0 10 16).bind fun v9 =>
  (zg_r σ a0 10 12).bind fun b11 =>
  (za_ld σ b11 0 ((((nI 27) * x1) + ((nI 9) * x2)) + ((nI 3) * x3))).bind fun v12 =>
  (zg_r σ a0 10 12).bind fun b15 =>
  (za_ld σ b15 0 (((((nI 27) * x1) + ((nI 9) * x2)) + ((nI 3) * x3)) + (nI 1))).bind fun v16 =>
  (za_st σ b7 0 (((nI 6) * v9) + ((nI 2) * x3)) (v12 ||| v16)).bind fun σ18 =>
  (zg_r σ18 a0 10 19).bind fun b21 =>
  (zg_i σ18 a0 10 16).bind fun v23 =>
  (zg_r σ18 a0 10 12).bind fun b25 =>
  (za_ld σ18 b25 0 (((((nI 27) * x1) + ((nI 9) * x2)) + ((nI 3) * x3)) + (nI 1))).bind fun v26 =>
  (za_st σ18 b21 0 ((((nI 6) * v23) + ((nI 2) * x3)) + (nI 1)) v26).bind fun σ28 =>
  zf_Mo_post_45 n a0 x1 x2 (x3 + nI 1) σ28)

def zf_Mo_post (ay0 : Nat) (xy1 : Int32) (xy2 : Int32) (σ : za_h) : Option (Int32 × za_h) :=
  (zg_c σ ay0 10).bind fun _ =>
  (zf_Mo_good ay0 xy1 σ).bind fun (r2, σ3) =>
  if r2 = 0 then
  (zf_Mo_post_36 σ3)
  else
  ((zf_Mo_in xy2 (nI 0) (nI 2) σ3).bind fun (r6, σ7) =>
  if r6 = 0 then
  (zf_Mo_post_36 σ7)
  else
  ((zg_r σ7 ay0 10 7).bind fun b11 =>
  (za_ld σ7 b11 0 xy1).bind fun v12 =>
  if v12 < xy2 then
  (zf_Mo_post_36 σ7)
  else
  ((zg_i σ7 ay0 10 16).bind fun v16 =>
  if v16 = (nI 120) then
  (zf_Mo_post_36 σ7)
  else
  ((zp_f σ7 ay0 10 1 (.int (nI 1))).bind fun σ19 =>
  zf_Mo_post_45 6 ay0 xy1 xy2 (nI 0) σ19))))
set_option maxRecDepth 100000 in
set_option maxHeartbeats 4000000 in
theorem zm_Mo_post {l : Launch} {D : va_G} {ca : Nat → ClassId} {n0 : Nat} {ay0 : Nat} {xy1 : Int32} {xy2 : Int32} {σ σ' : za_h} {r : Int32} (h : zf_Mo_post ay0 xy1 xy2 σ = some (r, σ')) : Met l zy_Mo_post (za_wy zy_Mo_post zc_Mo_post 5 (some .int)) { frames := 2, cells := 0, slots := 0, locals := 43 } (za_Pc D ca n0 [.ref ay0, .int xy1, .int xy2] σ) (za_Qi D ca n0 r σ') 0 0 (za_A n0) := by
  refine za_met (by decide) (Nat.le_of_ble_eq_true rfl) ?_
  intro p e s m below meth c ls hx hb hml hr hlk hts hown hnm hK hI hl
  replace hown : s.vm.findClass zR_Mo = some m.cls := hown
  replace hl : lv_has ls 5 [(0, .ref ay0), (1, .int xy1), (2, .int xy2)] := hl
  have B36 : ∀ (H : Heap) (locs : List Loc) (ls : Array Slot) (σ : za_h), za_I D ca n0 s σ H locs → lv_has ls 5 [] → zf_Mo_post_36 σ = some (r, σ') → W p l e ({ frames := 2, cells := 0, slots := 0, locals := 43 }) s m ([.ref ay0, .int xy1, .int xy2] : List Value).toArray below meth c H locs 0 0 (MQ below (za_Qi D ca n0 r σ') ([.ref ay0, .int xy1, .int xy2] : List Value).toArray s 0 0 (za_A n0)) (F0 m 36 ls []) := by
    intro H locs ls σ hI hl h
    unfold zf_Mo_post_36 at h
    refine lv_iconst (v := -1) hx hb zd_Mo_post_36 (by decide) ?_
    exact za_iret hx hb hr hlk hI h (Nat.le_of_ble_eq_true rfl) (Nat.le_of_ble_eq_true rfl) zd_Mo_post_37
  have B45 : ∀ n : Nat, ∀ (H : Heap) (locs : List Loc) (ls : Array Slot) (a0 : Nat) (x1 : Int32) (x2 : Int32) (x3 : Int32) (σ : za_h), za_I D ca n0 s σ H locs → lv_has ls 5 [(0, .ref a0), (1, .int x1), (2, .int x2), (3, .int x3)] → zf_Mo_post_45 n a0 x1 x2 x3 σ = some (r, σ') → W p l e ({ frames := 2, cells := 0, slots := 0, locals := 43 }) s m ([.ref ay0, .int xy1, .int xy2] : List Value).toArray below meth c H locs 0 0 (MQ below (za_Qi D ca n0 r σ') ([.ref ay0, .int xy1, .int xy2] : List Value).toArray s 0 0 (za_A n0)) (F0 m 45 ls []) := by
    intro n
    induction n with
    | zero => intro H locs ls a0 x1 x2 x3 σ hI hl h; rw [zf_Mo_post_45] at h; cases h
    | succ n ih =>
      intro H locs ls a0 x1 x2 x3 σ hI hl h
      rw [zf_Mo_post_45] at h
      refine lv_iload_n hx hb zd_Mo_post_45 rfl (lv_at hl 3 rfl) ?_
      refine lv_iconst (v := nI 3) hx hb zd_Mo_post_46 (by decide) ?_
      refine lv_icmp_ge hx hb (tgt := 131) zd_Mo_post_47 (by decide) (fun c1 => ?_) (fun c1 => ?_)
      · replace h := zb_t c1 h
        refine lv_aload_n hx hb zd_Mo_post_131 rfl (lv_at hl 0 rfl) ?_
        refine lv_iload_n hx hb zd_Mo_post_132 rfl (lv_at hl 1 rfl) ?_
        refine lv_iload_n hx hb zd_Mo_post_133 rfl (lv_at hl 2 rfl) ?_
        obtain ⟨_, g2, h⟩ := zb_o h
        obtain ⟨⟨r3, σ4⟩, e5, h⟩ := zb_o h
        refine za_calli (za_runV hx hb hml hown hts hK hI g2 (zm_Mo_sealed e5) zj_Mo_203 ⟨rfl, rfl⟩ ⟨Nat.le_of_ble_eq_true rfl, Nat.le_of_ble_eq_true rfl⟩ rfl hl.1 rfl (Nat.le_of_ble_eq_true rfl) zd_Mo_post_134 ⟨Nat.le_of_ble_eq_true rfl, Nat.le_of_ble_eq_true rfl⟩) hI (fun H locs hI => ?_)
        exact za_iret hx hb hr hlk hI h (Nat.le_of_ble_eq_true rfl) (Nat.le_of_ble_eq_true rfl) zd_Mo_post_137
      · replace h := zb_f c1 h
        refine lv_bipush (v := nI 27) hx hb zd_Mo_post_50 (by decide) ?_
        refine lv_iload_n hx hb zd_Mo_post_52 rfl (lv_at hl 1 rfl) ?_
        refine lv_imul hx hb zd_Mo_post_53 ?_
        refine lv_bipush (v := nI 9) hx hb zd_Mo_post_54 (by decide) ?_
        refine lv_iload_n hx hb zd_Mo_post_56 rfl (lv_at hl 2 rfl) ?_
        refine lv_imul hx hb zd_Mo_post_57 ?_
        refine lv_iadd hx hb zd_Mo_post_58 ?_
        refine lv_iconst (v := nI 3) hx hb zd_Mo_post_59 (by decide) ?_
        refine lv_iload_n hx hb zd_Mo_post_60 rfl (lv_at hl 3 rfl) ?_
        refine lv_imul hx hb zd_Mo_post_61 ?_
        refine lv_iadd hx hb zd_Mo_post_62 ?_
        refine lv_istore (lv' := [(4, .int ((((nI 27) * x1) + ((nI 9) * x2)) + ((nI 3) * x3))), (0, .ref a0), (1, .int x1), (2, .int x2), (3, .int x3)]) hx hb zd_Mo_post_63 hl (Nat.le_of_ble_eq_true rfl) rfl (fun ls hl => ?_)
        refine lv_aload_n hx hb zd_Mo_post_65 rfl (lv_at hl 1 rfl) ?_
        obtain ⟨b7, e6, h⟩ := zb_o h
        refine za_getr hx hb hts hown hK hI zl_Mo_59 e6 zd_Mo_post_66 ?_
        refine lv_bipush (v := nI 6) hx hb zd_Mo_post_69 (by decide) ?_
        refine lv_aload_n hx hb zd_Mo_post_71 rfl (lv_at hl 1 rfl) ?_
        obtain ⟨v9, e8, h⟩ := zb_o h
        refine za_geti hx hb hts hown hK hI zl_Mo_200 e8 zd_Mo_post_72 ?_
        refine lv_imul hx hb zd_Mo_post_75 ?_
        refine lv_iconst (v := nI 2) hx hb zd_Mo_post_76 (by decide) ?_
        refine lv_iload_n hx hb zd_Mo_post_77 rfl (lv_at hl 4 rfl) ?_
        refine lv_imul hx hb zd_Mo_post_78 ?_
        refine lv_iadd hx hb zd_Mo_post_79 ?_
        refine lv_aload_n hx hb zd_Mo_post_80 rfl (lv_at hl 1 rfl) ?_
        obtain ⟨b11, e10, h⟩ := zb_o h
        refine za_getr hx hb hts hown hK hI zl_Mo_41 e10 zd_Mo_post_81 ?_
        refine lv_iload hx hb zd_Mo_post_84 (lv_at hl 0 rfl) ?_
        obtain ⟨v12, e13, h⟩ := zb_o h
        refine za_iald hx hb hK hI e13 zd_Mo_post_86 ?_
        refine lv_aload_n hx hb zd_Mo_post_87 rfl (lv_at hl 1 rfl) ?_
        obtain ⟨b15, e14, h⟩ := zb_o h
        refine za_getr hx hb hts hown hK hI zl_Mo_41 e14 zd_Mo_post_88 ?_
        refine lv_iload hx hb zd_Mo_post_91 (lv_at hl 0 rfl) ?_
        refine lv_iconst (v := nI 1) hx hb zd_Mo_post_93 (by decide) ?_
        refine lv_iadd hx hb zd_Mo_post_94 ?_
        obtain ⟨v16, e17, h⟩ := zb_o h
        refine za_iald hx hb hK hI e17 zd_Mo_post_95 ?_
        refine lv_ior hx hb zd_Mo_post_96 ?_
        obtain ⟨σ18, e19, h⟩ := zb_o h
        refine za_iast hx hb hK hI e19 zd_Mo_post_97 (fun H locs hI => ?_)
        refine lv_aload_n hx hb zd_Mo_post_98 rfl (lv_at hl 1 rfl) ?_
        obtain ⟨b21, e20, h⟩ := zb_o h
        refine za_getr hx hb hts hown hK hI zl_Mo_59 e20 zd_Mo_post_99 ?_
        refine lv_bipush (v := nI 6) hx hb zd_Mo_post_102 (by decide) ?_
        refine lv_aload_n hx hb zd_Mo_post_104 rfl (lv_at hl 1 rfl) ?_
        obtain ⟨v23, e22, h⟩ := zb_o h
        refine za_geti hx hb hts hown hK hI zl_Mo_200 e22 zd_Mo_post_105 ?_
        refine lv_imul hx hb zd_Mo_post_108 ?_
        refine lv_iconst (v := nI 2) hx hb zd_Mo_post_109 (by decide) ?_
        refine lv_iload_n hx hb zd_Mo_post_110 rfl (lv_at hl 4 rfl) ?_
        refine lv_imul hx hb zd_Mo_post_111 ?_
        refine lv_iadd hx hb zd_Mo_post_112 ?_
        refine lv_iconst (v := nI 1) hx hb zd_Mo_post_113 (by decide) ?_
        refine lv_iadd hx hb zd_Mo_post_114 ?_
        refine lv_aload_n hx hb zd_Mo_post_115 rfl (lv_at hl 1 rfl) ?_
        obtain ⟨b25, e24, h⟩ := zb_o h
        refine za_getr hx hb hts hown hK hI zl_Mo_41 e24 zd_Mo_post_116 ?_
        refine lv_iload hx hb zd_Mo_post_119 (lv_at hl 0 rfl) ?_
        refine lv_iconst (v := nI 1) hx hb zd_Mo_post_121 (by decide) ?_
        refine lv_iadd hx hb zd_Mo_post_122 ?_
        obtain ⟨v26, e27, h⟩ := zb_o h
        refine za_iald hx hb hK hI e27 zd_Mo_post_123 ?_
        obtain ⟨σ28, e29, h⟩ := zb_o h
        refine za_iast hx hb hK hI e29 zd_Mo_post_124 (fun H locs hI => ?_)
        refine lv_iinc (k := 4) (v := (x3 + nI 1)) (lv' := [(3, .int (x3 + nI 1)), (4, .int ((((nI 27) * x1) + ((nI 9) * x2)) + ((nI 3) * x3))), (0, .ref a0), (1, .int x1), (2, .int x2)]) hx hb zd_Mo_post_125 hl rfl rfl (Nat.le_of_ble_eq_true rfl) rfl (fun ls hl => ?_)
        refine lv_goto hx hb (tgt := 45) zd_Mo_post_128 (by decide) ?_
        exact ih _ _ ls a0 x1 x2 (x3 + nI 1) σ28 hI (lv_sub hl [2, 3, 4, 0] rfl) h
  unfold zf_Mo_post at h
  refine lv_aload_n hx hb zd_Mo_post_0 rfl (lv_at hl 0 rfl) ?_
  refine lv_iload_n hx hb zd_Mo_post_1 rfl (lv_at hl 1 rfl) ?_
  obtain ⟨_, g1, h⟩ := zb_o h
  obtain ⟨⟨r2, σ3⟩, e4, h⟩ := zb_o h
  refine za_calli (za_runV hx hb hml hown hts hK hI g1 (zm_Mo_good e4) zj_Mo_190 ⟨rfl, rfl⟩ ⟨Nat.le_of_ble_eq_true rfl, Nat.le_of_ble_eq_true rfl⟩ rfl hl.1 rfl (Nat.le_of_ble_eq_true rfl) zd_Mo_post_2 ⟨Nat.le_of_ble_eq_true rfl, Nat.le_of_ble_eq_true rfl⟩) hI (fun H locs hI => ?_)
  refine lv_if_eq hx hb (tgt := 36) zd_Mo_post_5 (by decide) (fun c5 => ?_) (fun c5 => ?_)
  · replace h := zb_t c5 h
    exact B36 _ _ ls σ3 hI (lv_sub hl [] rfl) h
  · replace h := zb_f c5 h
    refine lv_iload_n hx hb zd_Mo_post_8 rfl (lv_at hl 2 rfl) ?_
    refine lv_iconst (v := nI 0) hx hb zd_Mo_post_9 (by decide) ?_
    refine lv_iconst (v := nI 2) hx hb zd_Mo_post_10 (by decide) ?_
    obtain ⟨⟨r6, σ7⟩, e8, h⟩ := zb_o h
    refine za_calli (za_runS hx hb hml hown hts hK hI (zm_Mo_in e8) zj_Mo_105 ⟨rfl, rfl⟩ ⟨Nat.le_of_ble_eq_true rfl, Nat.le_of_ble_eq_true rfl⟩ rfl hl.1 rfl (Nat.le_of_ble_eq_true rfl) zd_Mo_post_11 ⟨Nat.le_of_ble_eq_true rfl, Nat.le_of_ble_eq_true rfl⟩) hI (fun H locs hI => ?_)
    refine lv_if_eq hx hb (tgt := 36) zd_Mo_post_14 (by decide) (fun c9 => ?_) (fun c9 => ?_)
    · replace h := zb_t c9 h
      exact B36 _ _ ls σ7 hI (lv_sub hl [] rfl) h
    · replace h := zb_f c9 h
      refine lv_iload_n hx hb zd_Mo_post_17 rfl (lv_at hl 2 rfl) ?_
      refine lv_aload_n hx hb zd_Mo_post_18 rfl (lv_at hl 0 rfl) ?_
      obtain ⟨b11, e10, h⟩ := zb_o h
      refine za_getr hx hb hts hown hK hI zl_Mo_26 e10 zd_Mo_post_19 ?_
      refine lv_iload_n hx hb zd_Mo_post_22 rfl (lv_at hl 1 rfl) ?_
      obtain ⟨v12, e13, h⟩ := zb_o h
      refine za_iald hx hb hK hI e13 zd_Mo_post_23 ?_
      refine lv_icmp_gt hx hb (tgt := 36) zd_Mo_post_24 (by decide) (fun c14 => ?_) (fun c14 => ?_)
      · replace h := zb_t c14 h
        exact B36 _ _ ls σ7 hI (lv_sub hl [] rfl) h
      · replace h := zb_f c14 h
        refine lv_aload_n hx hb zd_Mo_post_27 rfl (lv_at hl 0 rfl) ?_
        obtain ⟨v16, e15, h⟩ := zb_o h
        refine za_geti hx hb hts hown hK hI zl_Mo_200 e15 zd_Mo_post_28 ?_
        refine lv_bipush (v := nI 120) hx hb zd_Mo_post_31 (by decide) ?_
        refine lv_icmp_ne hx hb (tgt := 38) zd_Mo_post_33 (by decide) (fun c17 => ?_) (fun c17 => ?_)
        · replace h := zb_f c17 h
          refine lv_aload_n hx hb zd_Mo_post_38 rfl (lv_at hl 0 rfl) ?_
          refine lv_iconst (v := nI 1) hx hb zd_Mo_post_39 (by decide) ?_
          obtain ⟨σ19, e18, h⟩ := zb_o h
          refine za_put hx hb hts hown hK hI zl_Mo_117 e18 (by decide +kernel) (by decide +kernel) zd_Mo_post_40 (fun H locs hI => ?_)
          refine lv_iconst (v := nI 0) hx hb zd_Mo_post_43 (by decide) ?_
          refine lv_istore_n (lv' := [(3, .int (nI 0)), (0, .ref ay0), (1, .int xy1), (2, .int xy2)]) hx hb zd_Mo_post_44 rfl hl (Nat.le_of_ble_eq_true rfl) rfl (fun ls hl => ?_)
          exact B45 6 _ _ ls ay0 xy1 xy2 (nI 0) σ19 hI (lv_sub hl [1, 2, 3, 0] rfl) h
        · replace h := zb_t c17 h
          exact B36 _ _ ls σ7 hI (lv_sub hl [] rfl) h

def zf_Mo_forge_35  (σ : za_h) : Option (Int32 × za_h) :=
  some ((-1), σ)

def zf_Mo_forge_45 : Nat → Nat → Int32 → Int32 → Int32 → Int32 → Int32 → Int32 → za_h → Option (Int32 × za_h)
  | 0, _, _, _, _, _, _, _, _ => none
  | n + 1, a0, x1, x2, x3, x4, x5, x6, σ =>
  if (nI 2) ≤ x6 then
  ((zg_c σ a0 10).bind fun _ =>
  (zf_Mo_sealed a0 x1 x2 σ).bind fun (r3, σ4) =>
  some (r3, σ4))
  else
  ((zg_r σ a0 10 19).bind fun b7 =>
  (zg_i σ a0 10 16).bind fun v9 =>
  (za_st σ b7 0 (((nI 6) * v9) + x6) (x3 &&& (nI 254))).bind fun σ10 =>
  (zg_r σ10 a0 10 19).bind fun b13 =>
  (zg_i σ10 a0 10 16).bind fun v15 =>
  (za_st σ10 b13 0 ((((nI 6) * v15) + (nI 2)) + x6) (x4 &&& (nI 268435455))).bind fun σ16 =>
  (zg_r σ16 a0 10 19).bind fun b19 =>
  (zg_i σ16 a0 10 16).bind fun v21 =>
  (za_st σ16 b19 0 ((((nI 6) * v21) + (nI 4)) + x6) (x5 &&& (nI 268435455))).bind fun σ22 =>
  zf_Mo_forge_45 n a0 x1 x2 x3 x4 x5 (x6 + nI 1) σ22)

def zf_Mo_forge (ay0 : Nat) (xy1 : Int32) (xy2 : Int32) (xy3 : Int32) (xy4 : Int32) (xy5 : Int32) (σ : za_h) : Option (Int32 × za_h) :=
  (zf_Mo_in xy1 (nI 0) (nI 4) σ).bind fun (r1, σ2) =>
  if r1 = 0 then
  (zf_Mo_forge_35 σ2)
  else
  ((zg_c σ2 ay0 10).bind fun _ =>
  (zf_Mo_good ay0 xy1 σ2).bind fun (r6, σ7) =>
  if r6 = 0 then
  ((zf_Mo_in xy2 (nI 0) (nI 2) σ7).bind fun (r10, σ11) =>
  if r10 = 0 then
  (zf_Mo_forge_35 σ11)
  else
  ((zg_i σ11 ay0 10 16).bind fun v15 =>
  if v15 = (nI 120) then
  (zf_Mo_forge_35 σ11)
  else
  ((zp_f σ11 ay0 10 1 (.int (nI 1))).bind fun σ18 =>
  zf_Mo_forge_45 6 ay0 xy1 xy2 xy3 xy4 xy5 (nI 0) σ18)))
  else
  (zf_Mo_forge_35 σ7))
set_option maxRecDepth 100000 in
set_option maxHeartbeats 4000000 in
theorem zm_Mo_forge {l : Launch} {D : va_G} {ca : Nat → ClassId} {n0 : Nat} {ay0 : Nat} {xy1 : Int32} {xy2 : Int32} {xy3 : Int32} {xy4 : Int32} {xy5 : Int32} {σ σ' : za_h} {r : Int32} (h : zf_Mo_forge ay0 xy1 xy2 xy3 xy4 xy5 σ = some (r, σ')) : Met l zy_Mo_forge (za_wy zy_Mo_forge zc_Mo_forge 7 (some .int)) { frames := 2, cells := 0, slots := 0, locals := 43 } (za_Pc D ca n0 [.ref ay0, .int xy1, .int xy2, .int xy3, .int xy4, .int xy5] σ) (za_Qi D ca n0 r σ') 0 0 (za_A n0) := by
  refine za_met (by decide) (Nat.le_of_ble_eq_true rfl) ?_
  intro p e s m below meth c ls hx hb hml hr hlk hts hown hnm hK hI hl
  replace hown : s.vm.findClass zR_Mo = some m.cls := hown
  replace hl : lv_has ls 7 [(0, .ref ay0), (1, .int xy1), (2, .int xy2), (3, .int xy3), (4, .int xy4), (5, .int xy5)] := hl
  have B35 : ∀ (H : Heap) (locs : List Loc) (ls : Array Slot) (σ : za_h), za_I D ca n0 s σ H locs → lv_has ls 7 [] → zf_Mo_forge_35 σ = some (r, σ') → W p l e ({ frames := 2, cells := 0, slots := 0, locals := 43 }) s m ([.ref ay0, .int xy1, .int xy2, .int xy3, .int xy4, .int xy5] : List Value).toArray below meth c H locs 0 0 (MQ below (za_Qi D ca n0 r σ') ([.ref ay0, .int xy1, .int xy2, .int xy3, .int xy4, .int xy5] : List Value).toArray s 0 0 (za_A n0)) (F0 m 35 ls []) := by
    intro H locs ls σ hI hl h
    unfold zf_Mo_forge_35 at h
    refine lv_iconst (v := -1) hx hb zd_Mo_forge_35 (by decide) ?_
    exact za_iret hx hb hr hlk hI h (Nat.le_of_ble_eq_true rfl) (Nat.le_of_ble_eq_true rfl) zd_Mo_forge_36
  have B45 : ∀ n : Nat, ∀ (H : Heap) (locs : List Loc) (ls : Array Slot) (a0 : Nat) (x1 : Int32) (x2 : Int32) (x3 : Int32) (x4 : Int32) (x5 : Int32) (x6 : Int32) (σ : za_h), za_I D ca n0 s σ H locs → lv_has ls 7 [(0, .ref a0), (1, .int x1), (2, .int x2), (3, .int x3), (4, .int x4), (5, .int x5), (6, .int x6)] → zf_Mo_forge_45 n a0 x1 x2 x3 x4 x5 x6 σ = some (r, σ') → W p l e ({ frames := 2, cells := 0, slots := 0, locals := 43 }) s m ([.ref ay0, .int xy1, .int xy2, .int xy3, .int xy4, .int xy5] : List Value).toArray below meth c H locs 0 0 (MQ below (za_Qi D ca n0 r σ') ([.ref ay0, .int xy1, .int xy2, .int xy3, .int xy4, .int xy5] : List Value).toArray s 0 0 (za_A n0)) (F0 m 45 ls []) := by
    intro n
    induction n with
    | zero => intro H locs ls a0 x1 x2 x3 x4 x5 x6 σ hI hl h; rw [zf_Mo_forge_45] at h; cases h
    | succ n ih =>
      intro H locs ls a0 x1 x2 x3 x4 x5 x6 σ hI hl h
      rw [zf_Mo_forge_45] at h
      refine lv_iload hx hb zd_Mo_forge_45 (lv_at hl 6 rfl) ?_
      refine lv_iconst (v := nI 2) hx hb zd_Mo_forge_47 (by decide) ?_
      refine lv_icmp_ge hx hb (tgt := 121) zd_Mo_forge_48 (by decide) (fun c1 => ?_) (fun c1 => ?_)
      · replace h := zb_t c1 h
        refine lv_aload_n hx hb zd_Mo_forge_121 rfl (lv_at hl 0 rfl) ?_
        refine lv_iload_n hx hb zd_Mo_forge_122 rfl (lv_at hl 1 rfl) ?_
        refine lv_iload_n hx hb zd_Mo_forge_123 rfl (lv_at hl 2 rfl) ?_
        obtain ⟨_, g2, h⟩ := zb_o h
        obtain ⟨⟨r3, σ4⟩, e5, h⟩ := zb_o h
        refine za_calli (za_runV hx hb hml hown hts hK hI g2 (zm_Mo_sealed e5) zj_Mo_203 ⟨rfl, rfl⟩ ⟨Nat.le_of_ble_eq_true rfl, Nat.le_of_ble_eq_true rfl⟩ rfl hl.1 rfl (Nat.le_of_ble_eq_true rfl) zd_Mo_forge_124 ⟨Nat.le_of_ble_eq_true rfl, Nat.le_of_ble_eq_true rfl⟩) hI (fun H locs hI => ?_)
        exact za_iret hx hb hr hlk hI h (Nat.le_of_ble_eq_true rfl) (Nat.le_of_ble_eq_true rfl) zd_Mo_forge_127
      · replace h := zb_f c1 h
        refine lv_aload_n hx hb zd_Mo_forge_51 rfl (lv_at hl 0 rfl) ?_
        obtain ⟨b7, e6, h⟩ := zb_o h
        refine za_getr hx hb hts hown hK hI zl_Mo_59 e6 zd_Mo_forge_52 ?_
        refine lv_bipush (v := nI 6) hx hb zd_Mo_forge_55 (by decide) ?_
        refine lv_aload_n hx hb zd_Mo_forge_57 rfl (lv_at hl 0 rfl) ?_
        obtain ⟨v9, e8, h⟩ := zb_o h
        refine za_geti hx hb hts hown hK hI zl_Mo_200 e8 zd_Mo_forge_58 ?_
        refine lv_imul hx hb zd_Mo_forge_61 ?_
        refine lv_iload hx hb zd_Mo_forge_62 (lv_at hl 6 rfl) ?_
        refine lv_iadd hx hb zd_Mo_forge_64 ?_
        refine lv_iload_n hx hb zd_Mo_forge_65 rfl (lv_at hl 3 rfl) ?_
        refine lv_sipush (v := nI 254) hx hb zd_Mo_forge_66 (by decide) ?_
        refine lv_iand hx hb zd_Mo_forge_69 ?_
        obtain ⟨σ10, e11, h⟩ := zb_o h
        refine za_iast hx hb hK hI e11 zd_Mo_forge_70 (fun H locs hI => ?_)
        refine lv_aload_n hx hb zd_Mo_forge_71 rfl (lv_at hl 0 rfl) ?_
        obtain ⟨b13, e12, h⟩ := zb_o h
        refine za_getr hx hb hts hown hK hI zl_Mo_59 e12 zd_Mo_forge_72 ?_
        refine lv_bipush (v := nI 6) hx hb zd_Mo_forge_75 (by decide) ?_
        refine lv_aload_n hx hb zd_Mo_forge_77 rfl (lv_at hl 0 rfl) ?_
        obtain ⟨v15, e14, h⟩ := zb_o h
        refine za_geti hx hb hts hown hK hI zl_Mo_200 e14 zd_Mo_forge_78 ?_
        refine lv_imul hx hb zd_Mo_forge_81 ?_
        refine lv_iconst (v := nI 2) hx hb zd_Mo_forge_82 (by decide) ?_
        refine lv_iadd hx hb zd_Mo_forge_83 ?_
        refine lv_iload hx hb zd_Mo_forge_84 (lv_at hl 6 rfl) ?_
        refine lv_iadd hx hb zd_Mo_forge_86 ?_
        refine lv_iload hx hb zd_Mo_forge_87 (lv_at hl 4 rfl) ?_
        refine lv_ldc (v := nI 268435455) hx hb hown (hts _ zk_812) zd_Mo_forge_89 ?_
        refine lv_iand hx hb zd_Mo_forge_91 ?_
        obtain ⟨σ16, e17, h⟩ := zb_o h
        refine za_iast hx hb hK hI e17 zd_Mo_forge_92 (fun H locs hI => ?_)
        refine lv_aload_n hx hb zd_Mo_forge_93 rfl (lv_at hl 0 rfl) ?_
        obtain ⟨b19, e18, h⟩ := zb_o h
        refine za_getr hx hb hts hown hK hI zl_Mo_59 e18 zd_Mo_forge_94 ?_
        refine lv_bipush (v := nI 6) hx hb zd_Mo_forge_97 (by decide) ?_
        refine lv_aload_n hx hb zd_Mo_forge_99 rfl (lv_at hl 0 rfl) ?_
        obtain ⟨v21, e20, h⟩ := zb_o h
        refine za_geti hx hb hts hown hK hI zl_Mo_200 e20 zd_Mo_forge_100 ?_
        refine lv_imul hx hb zd_Mo_forge_103 ?_
        refine lv_iconst (v := nI 4) hx hb zd_Mo_forge_104 (by decide) ?_
        refine lv_iadd hx hb zd_Mo_forge_105 ?_
        refine lv_iload hx hb zd_Mo_forge_106 (lv_at hl 6 rfl) ?_
        refine lv_iadd hx hb zd_Mo_forge_108 ?_
        refine lv_iload hx hb zd_Mo_forge_109 (lv_at hl 5 rfl) ?_
        refine lv_ldc (v := nI 268435455) hx hb hown (hts _ zk_812) zd_Mo_forge_111 ?_
        refine lv_iand hx hb zd_Mo_forge_113 ?_
        obtain ⟨σ22, e23, h⟩ := zb_o h
        refine za_iast hx hb hK hI e23 zd_Mo_forge_114 (fun H locs hI => ?_)
        refine lv_iinc (k := 6) (v := (x6 + nI 1)) (lv' := [(6, .int (x6 + nI 1)), (0, .ref a0), (1, .int x1), (2, .int x2), (3, .int x3), (4, .int x4), (5, .int x5)]) hx hb zd_Mo_forge_115 hl rfl rfl (Nat.le_of_ble_eq_true rfl) rfl (fun ls hl => ?_)
        refine lv_goto hx hb (tgt := 45) zd_Mo_forge_118 (by decide) ?_
        exact ih _ _ ls a0 x1 x2 x3 x4 x5 (x6 + nI 1) σ22 hI (lv_sub hl [1, 2, 3, 4, 5, 6, 0] rfl) h
  unfold zf_Mo_forge at h
  refine lv_iload_n hx hb zd_Mo_forge_0 rfl (lv_at hl 1 rfl) ?_
  refine lv_iconst (v := nI 0) hx hb zd_Mo_forge_1 (by decide) ?_
  refine lv_iconst (v := nI 4) hx hb zd_Mo_forge_2 (by decide) ?_
  obtain ⟨⟨r1, σ2⟩, e3, h⟩ := zb_o h
  refine za_calli (za_runS hx hb hml hown hts hK hI (zm_Mo_in e3) zj_Mo_105 ⟨rfl, rfl⟩ ⟨Nat.le_of_ble_eq_true rfl, Nat.le_of_ble_eq_true rfl⟩ rfl hl.1 rfl (Nat.le_of_ble_eq_true rfl) zd_Mo_forge_3 ⟨Nat.le_of_ble_eq_true rfl, Nat.le_of_ble_eq_true rfl⟩) hI (fun H locs hI => ?_)
  refine lv_if_eq hx hb (tgt := 35) zd_Mo_forge_6 (by decide) (fun c4 => ?_) (fun c4 => ?_)
  · replace h := zb_t c4 h
    exact B35 _ _ ls σ2 hI (lv_sub hl [] rfl) h
  · replace h := zb_f c4 h
    refine lv_aload_n hx hb zd_Mo_forge_9 rfl (lv_at hl 0 rfl) ?_
    refine lv_iload_n hx hb zd_Mo_forge_10 rfl (lv_at hl 1 rfl) ?_
    obtain ⟨_, g5, h⟩ := zb_o h
    obtain ⟨⟨r6, σ7⟩, e8, h⟩ := zb_o h
    refine za_calli (za_runV hx hb hml hown hts hK hI g5 (zm_Mo_good e8) zj_Mo_190 ⟨rfl, rfl⟩ ⟨Nat.le_of_ble_eq_true rfl, Nat.le_of_ble_eq_true rfl⟩ rfl hl.1 rfl (Nat.le_of_ble_eq_true rfl) zd_Mo_forge_11 ⟨Nat.le_of_ble_eq_true rfl, Nat.le_of_ble_eq_true rfl⟩) hI (fun H locs hI => ?_)
    refine lv_if_ne hx hb (tgt := 35) zd_Mo_forge_14 (by decide) (fun c9 => ?_) (fun c9 => ?_)
    · replace h := zb_f c9 h
      exact B35 _ _ ls σ7 hI (lv_sub hl [] rfl) h
    · replace h := zb_t c9 h
      refine lv_iload_n hx hb zd_Mo_forge_17 rfl (lv_at hl 2 rfl) ?_
      refine lv_iconst (v := nI 0) hx hb zd_Mo_forge_18 (by decide) ?_
      refine lv_iconst (v := nI 2) hx hb zd_Mo_forge_19 (by decide) ?_
      obtain ⟨⟨r10, σ11⟩, e12, h⟩ := zb_o h
      refine za_calli (za_runS hx hb hml hown hts hK hI (zm_Mo_in e12) zj_Mo_105 ⟨rfl, rfl⟩ ⟨Nat.le_of_ble_eq_true rfl, Nat.le_of_ble_eq_true rfl⟩ rfl hl.1 rfl (Nat.le_of_ble_eq_true rfl) zd_Mo_forge_20 ⟨Nat.le_of_ble_eq_true rfl, Nat.le_of_ble_eq_true rfl⟩) hI (fun H locs hI => ?_)
      refine lv_if_eq hx hb (tgt := 35) zd_Mo_forge_23 (by decide) (fun c13 => ?_) (fun c13 => ?_)
      · replace h := zb_t c13 h
        exact B35 _ _ ls σ11 hI (lv_sub hl [] rfl) h
      · replace h := zb_f c13 h
        refine lv_aload_n hx hb zd_Mo_forge_26 rfl (lv_at hl 0 rfl) ?_
        obtain ⟨v15, e14, h⟩ := zb_o h
        refine za_geti hx hb hts hown hK hI zl_Mo_200 e14 zd_Mo_forge_27 ?_
        refine lv_bipush (v := nI 120) hx hb zd_Mo_forge_30 (by decide) ?_
        refine lv_icmp_ne hx hb (tgt := 37) zd_Mo_forge_32 (by decide) (fun c16 => ?_) (fun c16 => ?_)
        · replace h := zb_f c16 h
          refine lv_aload_n hx hb zd_Mo_forge_37 rfl (lv_at hl 0 rfl) ?_
          refine lv_iconst (v := nI 1) hx hb zd_Mo_forge_38 (by decide) ?_
          obtain ⟨σ18, e17, h⟩ := zb_o h
          refine za_put hx hb hts hown hK hI zl_Mo_117 e17 (by decide +kernel) (by decide +kernel) zd_Mo_forge_39 (fun H locs hI => ?_)
          refine lv_iconst (v := nI 0) hx hb zd_Mo_forge_42 (by decide) ?_
          refine lv_istore (lv' := [(6, .int (nI 0)), (0, .ref ay0), (1, .int xy1), (2, .int xy2), (3, .int xy3), (4, .int xy4), (5, .int xy5)]) hx hb zd_Mo_forge_43 hl (Nat.le_of_ble_eq_true rfl) rfl (fun ls hl => ?_)
          exact B45 6 _ _ ls ay0 xy1 xy2 xy3 xy4 xy5 (nI 0) σ18 hI (lv_sub hl [1, 2, 3, 4, 5, 6, 0] rfl) h
        · replace h := zb_t c16 h
          exact B35 _ _ ls σ11 hI (lv_sub hl [] rfl) h

def zf_Mo_deliver_47  (σ : za_h) : Option (Int32 × za_h) :=
  some ((nI 0), σ)

def zf_Mo_deliver_51 : Nat → Nat → Int32 → Int32 → Int32 → za_h → Option (Int32 × za_h)
  | 0, _, _, _, _, _ => none
  | n + 1, a0, x1, x2, x3, σ =>
  if (nI 6) ≤ x3 then
  ((zg_c σ a0 10).bind fun _ =>
  (zf_Mo_stir a0 x2 σ).bind fun (_, σ4) =>
  some ((nI 1), σ4))
  else
  ((zg_r σ a0 10 17).bind fun b7 =>
  (za_ld σ b7 0 x1).bind fun v8 =>
  (zg_r σ a0 10 13).bind fun b11 =>
  (zg_r σ a0 10 13).bind fun b13 =>
  (za_ld σ b13 0 ((((nI 30) * x2) + ((nI 6) * v8)) + x3)).bind fun v14 =>
  (zg_r σ a0 10 19).bind fun b17 =>
  (za_ld σ b17 0 (((nI 6) * x1) + x3)).bind fun v18 =>
  (za_st σ b11 0 ((((nI 30) * x2) + ((nI 6) * v8)) + x3) (v14 ||| v18)).bind fun σ20 =>
  zf_Mo_deliver_51 n a0 x1 x2 (x3 + nI 1) σ20)

def zf_Mo_deliver (ay0 : Nat) (xy1 : Int32) (xy2 : Int32) (σ : za_h) : Option (Int32 × za_h) :=
  (zg_i σ ay0 10 16).bind fun v2 =>
  (zf_Mo_in xy1 (nI 0) (v2 - (nI 1)) σ).bind fun (r3, σ4) =>
  if r3 = 0 then
  (zf_Mo_deliver_47 σ4)
  else
  ((zg_c σ4 ay0 10).bind fun _ =>
  (zf_Mo_good ay0 xy2 σ4).bind fun (r8, σ9) =>
  if r8 = 0 then
  (zf_Mo_deliver_47 σ9)
  else
  ((zg_r σ9 ay0 10 17).bind fun b13 =>
  (za_ld σ9 b13 0 xy1).bind fun v14 =>
  if v14 = xy2 then
  (zf_Mo_deliver_47 σ9)
  else
  ((zg_r σ9 ay0 10 18).bind fun b18 =>
  (za_ld σ9 b18 0 xy1).bind fun v19 =>
  (zg_r σ9 ay0 10 7).bind fun b22 =>
  (za_ld σ9 b22 0 xy2).bind fun v23 =>
  if v19 = v23 then
  (zf_Mo_deliver_51 7 ay0 xy1 xy2 (nI 0) σ9)
  else
  (zf_Mo_deliver_47 σ9))))
set_option maxRecDepth 100000 in
set_option maxHeartbeats 4000000 in
theorem zm_Mo_deliver {l : Launch} {D : va_G} {ca : Nat → ClassId} {n0 : Nat} {ay0 : Nat} {xy1 : Int32} {xy2 : Int32} {σ σ' : za_h} {r : Int32} (h : zf_Mo_deliver ay0 xy1 xy2 σ = some (r, σ')) : Met l zy_Mo_deliver (za_wy zy_Mo_deliver zc_Mo_deliver 5 (some .boolean)) { frames := 7, cells := 0, slots := 0, locals := 176 } (za_Pc D ca n0 [.ref ay0, .int xy1, .int xy2] σ) (za_Qi D ca n0 r σ') 0 0 (za_A n0) := by
  refine za_met (by decide) (Nat.le_of_ble_eq_true rfl) ?_
  intro p e s m below meth c ls hx hb hml hr hlk hts hown hnm hK hI hl
  replace hown : s.vm.findClass zR_Mo = some m.cls := hown
  replace hl : lv_has ls 5 [(0, .ref ay0), (1, .int xy1), (2, .int xy2)] := hl
  have B47 : ∀ (H : Heap) (locs : List Loc) (ls : Array Slot) (σ : za_h), za_I D ca n0 s σ H locs → lv_has ls 5 [] → zf_Mo_deliver_47 σ = some (r, σ') → W p l e ({ frames := 7, cells := 0, slots := 0, locals := 176 }) s m ([.ref ay0, .int xy1, .int xy2] : List Value).toArray below meth c H locs 0 0 (MQ below (za_Qi D ca n0 r σ') ([.ref ay0, .int xy1, .int xy2] : List Value).toArray s 0 0 (za_A n0)) (F0 m 47 ls []) := by
    intro H locs ls σ hI hl h
    unfold zf_Mo_deliver_47 at h
    refine lv_iconst (v := nI 0) hx hb zd_Mo_deliver_47 (by decide) ?_
    exact za_zret hx hb hr hlk hI (by decide) h (Nat.le_of_ble_eq_true rfl) (Nat.le_of_ble_eq_true rfl) zd_Mo_deliver_48
  have B51 : ∀ n : Nat, ∀ (H : Heap) (locs : List Loc) (ls : Array Slot) (a0 : Nat) (x1 : Int32) (x2 : Int32) (x3 : Int32) (σ : za_h), za_I D ca n0 s σ H locs → lv_has ls 5 [(0, .ref a0), (1, .int x1), (2, .int x2), (3, .int x3)] → zf_Mo_deliver_51 n a0 x1 x2 x3 σ = some (r, σ') → W p l e ({ frames := 7, cells := 0, slots := 0, locals := 176 }) s m ([.ref ay0, .int xy1, .int xy2] : List Value).toArray below meth c H locs 0 0 (MQ below (za_Qi D ca n0 r σ') ([.ref ay0, .int xy1, .int xy2] : List Value).toArray s 0 0 (za_A n0)) (F0 m 51 ls []) := by
    intro n
    induction n with
    | zero => intro H locs ls a0 x1 x2 x3 σ hI hl h; rw [zf_Mo_deliver_51] at h; cases h
    | succ n ih =>
      intro H locs ls a0 x1 x2 x3 σ hI hl h
      rw [zf_Mo_deliver_51] at h
      refine lv_iload_n hx hb zd_Mo_deliver_51 rfl (lv_at hl 3 rfl) ?_
      refine lv_bipush (v := nI 6) hx hb zd_Mo_deliver_52 (by decide) ?_
      refine lv_icmp_ge hx hb (tgt := 107) zd_Mo_deliver_54 (by decide) (fun c1 => ?_) (fun c1 => ?_)
      · replace h := zb_t c1 h
        refine lv_aload_n hx hb zd_Mo_deliver_107 rfl (lv_at hl 0 rfl) ?_
        refine lv_iload_n hx hb zd_Mo_deliver_108 rfl (lv_at hl 2 rfl) ?_
        obtain ⟨_, g2, h⟩ := zb_o h
        obtain ⟨⟨r3, σ4⟩, e5, h⟩ := zb_o h
        refine za_callv (za_runV hx hb hml hown hts hK hI g2 (zm_Mo_stir e5) zj_Mo_197 ⟨rfl, rfl⟩ ⟨Nat.le_of_ble_eq_true rfl, Nat.le_of_ble_eq_true rfl⟩ rfl hl.1 rfl (Nat.le_of_ble_eq_true rfl) zd_Mo_deliver_109 ⟨Nat.le_of_ble_eq_true rfl, Nat.le_of_ble_eq_true rfl⟩) hI (fun H locs hI => ?_)
        refine lv_iconst (v := nI 1) hx hb zd_Mo_deliver_112 (by decide) ?_
        exact za_zret hx hb hr hlk hI (by decide) h (Nat.le_of_ble_eq_true rfl) (Nat.le_of_ble_eq_true rfl) zd_Mo_deliver_113
      · replace h := zb_f c1 h
        refine lv_bipush (v := nI 30) hx hb zd_Mo_deliver_57 (by decide) ?_
        refine lv_iload_n hx hb zd_Mo_deliver_59 rfl (lv_at hl 2 rfl) ?_
        refine lv_imul hx hb zd_Mo_deliver_60 ?_
        refine lv_bipush (v := nI 6) hx hb zd_Mo_deliver_61 (by decide) ?_
        refine lv_aload_n hx hb zd_Mo_deliver_63 rfl (lv_at hl 0 rfl) ?_
        obtain ⟨b7, e6, h⟩ := zb_o h
        refine za_getr hx hb hts hown hK hI zl_Mo_53 e6 zd_Mo_deliver_64 ?_
        refine lv_iload_n hx hb zd_Mo_deliver_67 rfl (lv_at hl 1 rfl) ?_
        obtain ⟨v8, e9, h⟩ := zb_o h
        refine za_iald hx hb hK hI e9 zd_Mo_deliver_68 ?_
        refine lv_imul hx hb zd_Mo_deliver_69 ?_
        refine lv_iadd hx hb zd_Mo_deliver_70 ?_
        refine lv_iload_n hx hb zd_Mo_deliver_71 rfl (lv_at hl 3 rfl) ?_
        refine lv_iadd hx hb zd_Mo_deliver_72 ?_
        refine lv_istore (lv' := [(4, .int ((((nI 30) * x2) + ((nI 6) * v8)) + x3)), (0, .ref a0), (1, .int x1), (2, .int x2), (3, .int x3)]) hx hb zd_Mo_deliver_73 hl (Nat.le_of_ble_eq_true rfl) rfl (fun ls hl => ?_)
        refine lv_aload_n hx hb zd_Mo_deliver_75 rfl (lv_at hl 1 rfl) ?_
        obtain ⟨b11, e10, h⟩ := zb_o h
        refine za_getr hx hb hts hown hK hI zl_Mo_44 e10 zd_Mo_deliver_76 ?_
        refine lv_iload hx hb zd_Mo_deliver_79 (lv_at hl 0 rfl) ?_
        refine lv_aload_n hx hb zd_Mo_deliver_81 rfl (lv_at hl 1 rfl) ?_
        obtain ⟨b13, e12, h⟩ := zb_o h
        refine za_getr hx hb hts hown hK hI zl_Mo_44 e12 zd_Mo_deliver_82 ?_
        refine lv_iload hx hb zd_Mo_deliver_85 (lv_at hl 0 rfl) ?_
        obtain ⟨v14, e15, h⟩ := zb_o h
        refine za_iald hx hb hK hI e15 zd_Mo_deliver_87 ?_
        refine lv_aload_n hx hb zd_Mo_deliver_88 rfl (lv_at hl 1 rfl) ?_
        obtain ⟨b17, e16, h⟩ := zb_o h
        refine za_getr hx hb hts hown hK hI zl_Mo_59 e16 zd_Mo_deliver_89 ?_
        refine lv_bipush (v := nI 6) hx hb zd_Mo_deliver_92 (by decide) ?_
        refine lv_iload_n hx hb zd_Mo_deliver_94 rfl (lv_at hl 2 rfl) ?_
        refine lv_imul hx hb zd_Mo_deliver_95 ?_
        refine lv_iload_n hx hb zd_Mo_deliver_96 rfl (lv_at hl 4 rfl) ?_
        refine lv_iadd hx hb zd_Mo_deliver_97 ?_
        obtain ⟨v18, e19, h⟩ := zb_o h
        refine za_iald hx hb hK hI e19 zd_Mo_deliver_98 ?_
        refine lv_ior hx hb zd_Mo_deliver_99 ?_
        obtain ⟨σ20, e21, h⟩ := zb_o h
        refine za_iast hx hb hK hI e21 zd_Mo_deliver_100 (fun H locs hI => ?_)
        refine lv_iinc (k := 4) (v := (x3 + nI 1)) (lv' := [(3, .int (x3 + nI 1)), (4, .int ((((nI 30) * x2) + ((nI 6) * v8)) + x3)), (0, .ref a0), (1, .int x1), (2, .int x2)]) hx hb zd_Mo_deliver_101 hl rfl rfl (Nat.le_of_ble_eq_true rfl) rfl (fun ls hl => ?_)
        refine lv_goto hx hb (tgt := 51) zd_Mo_deliver_104 (by decide) ?_
        exact ih _ _ ls a0 x1 x2 (x3 + nI 1) σ20 hI (lv_sub hl [2, 3, 4, 0] rfl) h
  unfold zf_Mo_deliver at h
  refine lv_iload_n hx hb zd_Mo_deliver_0 rfl (lv_at hl 1 rfl) ?_
  refine lv_iconst (v := nI 0) hx hb zd_Mo_deliver_1 (by decide) ?_
  refine lv_aload_n hx hb zd_Mo_deliver_2 rfl (lv_at hl 0 rfl) ?_
  obtain ⟨v2, e1, h⟩ := zb_o h
  refine za_geti hx hb hts hown hK hI zl_Mo_200 e1 zd_Mo_deliver_3 ?_
  refine lv_iconst (v := nI 1) hx hb zd_Mo_deliver_6 (by decide) ?_
  refine lv_isub hx hb zd_Mo_deliver_7 ?_
  obtain ⟨⟨r3, σ4⟩, e5, h⟩ := zb_o h
  refine za_calli (za_runS hx hb hml hown hts hK hI (zm_Mo_in e5) zj_Mo_105 ⟨rfl, rfl⟩ ⟨Nat.le_of_ble_eq_true rfl, Nat.le_of_ble_eq_true rfl⟩ rfl hl.1 rfl (Nat.le_of_ble_eq_true rfl) zd_Mo_deliver_8 ⟨Nat.le_of_ble_eq_true rfl, Nat.le_of_ble_eq_true rfl⟩) hI (fun H locs hI => ?_)
  refine lv_if_eq hx hb (tgt := 47) zd_Mo_deliver_11 (by decide) (fun c6 => ?_) (fun c6 => ?_)
  · replace h := zb_t c6 h
    exact B47 _ _ ls σ4 hI (lv_sub hl [] rfl) h
  · replace h := zb_f c6 h
    refine lv_aload_n hx hb zd_Mo_deliver_14 rfl (lv_at hl 0 rfl) ?_
    refine lv_iload_n hx hb zd_Mo_deliver_15 rfl (lv_at hl 2 rfl) ?_
    obtain ⟨_, g7, h⟩ := zb_o h
    obtain ⟨⟨r8, σ9⟩, e10, h⟩ := zb_o h
    refine za_calli (za_runV hx hb hml hown hts hK hI g7 (zm_Mo_good e10) zj_Mo_190 ⟨rfl, rfl⟩ ⟨Nat.le_of_ble_eq_true rfl, Nat.le_of_ble_eq_true rfl⟩ rfl hl.1 rfl (Nat.le_of_ble_eq_true rfl) zd_Mo_deliver_16 ⟨Nat.le_of_ble_eq_true rfl, Nat.le_of_ble_eq_true rfl⟩) hI (fun H locs hI => ?_)
    refine lv_if_eq hx hb (tgt := 47) zd_Mo_deliver_19 (by decide) (fun c11 => ?_) (fun c11 => ?_)
    · replace h := zb_t c11 h
      exact B47 _ _ ls σ9 hI (lv_sub hl [] rfl) h
    · replace h := zb_f c11 h
      refine lv_aload_n hx hb zd_Mo_deliver_22 rfl (lv_at hl 0 rfl) ?_
      obtain ⟨b13, e12, h⟩ := zb_o h
      refine za_getr hx hb hts hown hK hI zl_Mo_53 e12 zd_Mo_deliver_23 ?_
      refine lv_iload_n hx hb zd_Mo_deliver_26 rfl (lv_at hl 1 rfl) ?_
      obtain ⟨v14, e15, h⟩ := zb_o h
      refine za_iald hx hb hK hI e15 zd_Mo_deliver_27 ?_
      refine lv_iload_n hx hb zd_Mo_deliver_28 rfl (lv_at hl 2 rfl) ?_
      refine lv_icmp_eq hx hb (tgt := 47) zd_Mo_deliver_29 (by decide) (fun c16 => ?_) (fun c16 => ?_)
      · replace h := zb_t c16 h
        exact B47 _ _ ls σ9 hI (lv_sub hl [] rfl) h
      · replace h := zb_f c16 h
        refine lv_aload_n hx hb zd_Mo_deliver_32 rfl (lv_at hl 0 rfl) ?_
        obtain ⟨b18, e17, h⟩ := zb_o h
        refine za_getr hx hb hts hown hK hI zl_Mo_56 e17 zd_Mo_deliver_33 ?_
        refine lv_iload_n hx hb zd_Mo_deliver_36 rfl (lv_at hl 1 rfl) ?_
        obtain ⟨v19, e20, h⟩ := zb_o h
        refine za_iald hx hb hK hI e20 zd_Mo_deliver_37 ?_
        refine lv_aload_n hx hb zd_Mo_deliver_38 rfl (lv_at hl 0 rfl) ?_
        obtain ⟨b22, e21, h⟩ := zb_o h
        refine za_getr hx hb hts hown hK hI zl_Mo_26 e21 zd_Mo_deliver_39 ?_
        refine lv_iload_n hx hb zd_Mo_deliver_42 rfl (lv_at hl 2 rfl) ?_
        obtain ⟨v23, e24, h⟩ := zb_o h
        refine za_iald hx hb hK hI e24 zd_Mo_deliver_43 ?_
        refine lv_icmp_eq hx hb (tgt := 49) zd_Mo_deliver_44 (by decide) (fun c25 => ?_) (fun c25 => ?_)
        · replace h := zb_t c25 h
          refine lv_iconst (v := nI 0) hx hb zd_Mo_deliver_49 (by decide) ?_
          refine lv_istore_n (lv' := [(3, .int (nI 0)), (0, .ref ay0), (1, .int xy1), (2, .int xy2)]) hx hb zd_Mo_deliver_50 rfl hl (Nat.le_of_ble_eq_true rfl) rfl (fun ls hl => ?_)
          exact B51 7 _ _ ls ay0 xy1 xy2 (nI 0) σ9 hI (lv_sub hl [1, 2, 3, 0] rfl) h
        · replace h := zb_f c25 h
          exact B47 _ _ ls σ9 hI (lv_sub hl [] rfl) h

def zf_Mo_envelopes (ay0 : Nat) (σ : za_h) : Option (Int32 × za_h) :=
  (zg_i σ ay0 10 16).bind fun v2 =>
  some (v2, σ)
set_option maxRecDepth 100000 in
set_option maxHeartbeats 4000000 in
theorem zm_Mo_envelopes {l : Launch} {D : va_G} {ca : Nat → ClassId} {n0 : Nat} {ay0 : Nat} {σ σ' : za_h} {r : Int32} (h : zf_Mo_envelopes ay0 σ = some (r, σ')) : Met l zy_Mo_envelopes (za_wy zy_Mo_envelopes zc_Mo_envelopes 1 (some .int)) { frames := 0, cells := 0, slots := 0, locals := 0 } (za_Pc D ca n0 [.ref ay0] σ) (za_Qi D ca n0 r σ') 0 0 (za_A n0) := by
  refine za_met (by decide) (Nat.le_of_ble_eq_true rfl) ?_
  intro p e s m below meth c ls hx hb hml hr hlk hts hown hnm hK hI hl
  replace hown : s.vm.findClass zR_Mo = some m.cls := hown
  replace hl : lv_has ls 1 [(0, .ref ay0)] := hl
  unfold zf_Mo_envelopes at h
  refine lv_aload_n hx hb zd_Mo_envelopes_0 rfl (lv_at hl 0 rfl) ?_
  obtain ⟨v2, e1, h⟩ := zb_o h
  refine za_geti hx hb hts hown hK hI zl_Mo_200 e1 zd_Mo_envelopes_1 ?_
  exact za_iret hx hb hr hlk hI h (Nat.le_of_ble_eq_true rfl) (Nat.le_of_ble_eq_true rfl) zd_Mo_envelopes_4

def zf_Mo_submit_59  (σ : za_h) : Option (Int32 × za_h) :=
  some ((nI 0), σ)

def zf_Mo_submit_154  (σ : za_h) : Option (Int32 × za_h) :=
  some ((nI 0), σ)

def zf_Mo_submit_124 (k88 : Nat → Int32 → Int32 → Int32 → Int32 → Int32 → Int32 → Int32 → Int32 → Int32 → za_h → Option (Int32 × za_h)) (a0 : Nat) (x1 : Int32) (x2 : Int32) (x3 : Int32) (x4 : Int32) (x5 : Int32) (x6 : Int32) (x7 : Int32) (x9 : Int32) (xs0 : Int32) (σ : za_h) : Option (Int32 × za_h) :=
  k88 a0 x1 x2 x3 x4 x5 x6 x7 xs0 (x9 + nI 1) σ

def zf_Mo_submit_123 (k88 : Nat → Int32 → Int32 → Int32 → Int32 → Int32 → Int32 → Int32 → Int32 → Int32 → za_h → Option (Int32 × za_h)) (a0 : Nat) (x1 : Int32) (x2 : Int32) (x3 : Int32) (x4 : Int32) (x5 : Int32) (x6 : Int32) (x7 : Int32) (x9 : Int32) (σ : za_h) : Option (Int32 × za_h) :=
  zf_Mo_submit_124 k88 a0 x1 x2 x3 x4 x5 x6 x7 x9 (nI 0) σ

def zf_Mo_submit_119 (k88 : Nat → Int32 → Int32 → Int32 → Int32 → Int32 → Int32 → Int32 → Int32 → Int32 → za_h → Option (Int32 × za_h)) (a0 : Nat) (x1 : Int32) (x2 : Int32) (x3 : Int32) (x4 : Int32) (x5 : Int32) (x6 : Int32) (x7 : Int32) (x9 : Int32) (σ : za_h) : Option (Int32 × za_h) :=
  zf_Mo_submit_124 k88 a0 x1 x2 x3 x4 x5 x6 x7 x9 (nI 1) σ

def zf_Mo_submit_88 : Nat → Nat → Int32 → Int32 → Int32 → Int32 → Int32 → Int32 → Int32 → Int32 → Int32 → za_h → Option (Int32 × za_h)
  | 0, _, _, _, _, _, _, _, _, _, _, _ => none
  | n + 1, a0, x1, x2, x3, x4, x5, x6, x7, x8, x9, σ =>
  if (nI 5) ≤ x9 then
  (if x8 = 0 then
  (zf_Mo_submit_154 σ)
  else
  ((zg_r σ a0 10 20).bind fun b4 =>
  (za_ld σ b4 1 (((nI 3) * x1) + x2)).bind fun v5 =>
  if v5 = 0 then
  ((zg_r σ a0 10 20).bind fun b9 =>
  (za_st σ b9 1 (((nI 3) * x1) + x2) (vp_nar .boolean (nI 1))).bind fun σ10 =>
  (zg_r σ10 a0 10 21).bind fun b13 =>
  (za_st σ10 b13 0 (((nI 3) * x1) + x2) x3).bind fun σ14 =>
  (zg_r σ14 a0 10 22).bind fun b17 =>
  (za_st σ14 b17 0 (((nI 3) * x1) + x2) x4).bind fun σ18 =>
  (zg_r σ18 a0 10 23).bind fun b21 =>
  (za_st σ18 b21 0 (((nI 3) * x1) + x2) x5).bind fun σ22 =>
  (zg_r σ22 a0 10 24).bind fun b25 =>
  (za_st σ22 b25 0 (((nI 3) * x1) + x2) x6).bind fun σ26 =>
  (zg_r σ26 a0 10 25).bind fun b29 =>
  (za_st σ26 b29 0 (((nI 3) * x1) + x2) x7).bind fun σ30 =>
  some ((nI 1), σ30))
  else
  (zf_Mo_submit_154 σ)))
  else
  (if x8 = 0 then
  (zf_Mo_submit_123 (zf_Mo_submit_88 n) a0 x1 x2 x3 x4 x5 x6 x7 x9 σ)
  else
  ((zg_c σ a0 10).bind fun _ =>
  (zf_Mo_good a0 x9 σ).bind fun (r34, σ35) =>
  if r34 = 0 then
  (zf_Mo_submit_119 (zf_Mo_submit_88 n) a0 x1 x2 x3 x4 x5 x6 x7 x9 σ35)
  else
  ((zg_r σ35 a0 10 7).bind fun b39 =>
  (za_ld σ35 b39 0 x9).bind fun v40 =>
  if x1 < v40 then
  (zf_Mo_submit_123 (zf_Mo_submit_88 n) a0 x1 x2 x3 x4 x5 x6 x7 x9 σ35)
  else
  (zf_Mo_submit_119 (zf_Mo_submit_88 n) a0 x1 x2 x3 x4 x5 x6 x7 x9 σ35))))

def zf_Mo_submit_83 (a0 : Nat) (x1 : Int32) (x2 : Int32) (x3 : Int32) (x4 : Int32) (x5 : Int32) (x6 : Int32) (x7 : Int32) (xs0 : Int32) (σ : za_h) : Option (Int32 × za_h) :=
  zf_Mo_submit_88 6 a0 x1 x2 x3 x4 x5 x6 x7 xs0 (nI 0) σ

def zf_Mo_submit (ay0 : Nat) (xy1 : Int32) (xy2 : Int32) (xy3 : Int32) (xy4 : Int32) (xy5 : Int32) (xy6 : Int32) (xy7 : Int32) (σ : za_h) : Option (Int32 × za_h) :=
  (zf_Mo_in xy1 (nI 0) (nI 2) σ).bind fun (r1, σ2) =>
  if r1 = 0 then
  (zf_Mo_submit_59 σ2)
  else
  ((zf_Mo_in xy2 (nI 0) (nI 2) σ2).bind fun (r5, σ6) =>
  if r5 = 0 then
  (zf_Mo_submit_59 σ6)
  else
  ((zf_Mo_in xy3 (nI 0) (nI 1) σ6).bind fun (r9, σ10) =>
  if r9 = 0 then
  (zf_Mo_submit_59 σ10)
  else
  ((zf_Mo_in xy4 (nI 0) (nI 3) σ10).bind fun (r13, σ14) =>
  if r13 = 0 then
  (zf_Mo_submit_59 σ14)
  else
  ((zf_Mo_in xy5 (nI 0) (nI 1) σ14).bind fun (r17, σ18) =>
  if r17 = 0 then
  (zf_Mo_submit_59 σ18)
  else
  ((zf_Mo_in xy7 (nI 1) (nI 1000) σ18).bind fun (r21, σ22) =>
  if r21 = 0 then
  (zf_Mo_submit_59 σ22)
  else
  (if xy3 = 0 then
  ((zf_Mo_in xy6 (nI 0) (nI 3) σ22).bind fun (r29, σ30) =>
  zf_Mo_submit_83 ay0 xy1 xy2 xy3 xy4 xy5 xy6 xy7 r29 σ30)
  else
  ((zf_Mo_in xy6 (nI 1) (nI 9) σ22).bind fun (r26, σ27) =>
  zf_Mo_submit_83 ay0 xy1 xy2 xy3 xy4 xy5 xy6 xy7 r26 σ27)))))))
set_option maxRecDepth 100000 in
set_option maxHeartbeats 4000000 in
theorem zm_Mo_submit {l : Launch} {D : va_G} {ca : Nat → ClassId} {n0 : Nat} {ay0 : Nat} {xy1 : Int32} {xy2 : Int32} {xy3 : Int32} {xy4 : Int32} {xy5 : Int32} {xy6 : Int32} {xy7 : Int32} {σ σ' : za_h} {r : Int32} (h : zf_Mo_submit ay0 xy1 xy2 xy3 xy4 xy5 xy6 xy7 σ = some (r, σ')) : Met l zy_Mo_submit (za_wy zy_Mo_submit zc_Mo_submit 10 (some .boolean)) { frames := 2, cells := 0, slots := 0, locals := 43 } (za_Pc D ca n0 [.ref ay0, .int xy1, .int xy2, .int xy3, .int xy4, .int xy5, .int xy6, .int xy7] σ) (za_Qi D ca n0 r σ') 0 0 (za_A n0) := by
  refine za_met (by decide) (Nat.le_of_ble_eq_true rfl) ?_
  intro p e s m below meth c ls hx hb hml hr hlk hts hown hnm hK hI hl
  replace hown : s.vm.findClass zR_Mo = some m.cls := hown
  replace hl : lv_has ls 10 [(0, .ref ay0), (1, .int xy1), (2, .int xy2), (3, .int xy3), (4, .int xy4), (5, .int xy5), (6, .int xy6), (7, .int xy7)] := hl
  have B59 : ∀ (H : Heap) (locs : List Loc) (ls : Array Slot) (σ : za_h), za_I D ca n0 s σ H locs → lv_has ls 10 [] → zf_Mo_submit_59 σ = some (r, σ') → W p l e ({ frames := 2, cells := 0, slots := 0, locals := 43 }) s m ([.ref ay0, .int xy1, .int xy2, .int xy3, .int xy4, .int xy5, .int xy6, .int xy7] : List Value).toArray below meth c H locs 0 0 (MQ below (za_Qi D ca n0 r σ') ([.ref ay0, .int xy1, .int xy2, .int xy3, .int xy4, .int xy5, .int xy6, .int xy7] : List Value).toArray s 0 0 (za_A n0)) (F0 m 59 ls []) := by
    intro H locs ls σ hI hl h
    unfold zf_Mo_submit_59 at h
    refine lv_iconst (v := nI 0) hx hb zd_Mo_submit_59 (by decide) ?_
    exact za_zret hx hb hr hlk hI (by decide) h (Nat.le_of_ble_eq_true rfl) (Nat.le_of_ble_eq_true rfl) zd_Mo_submit_60
  have B154 : ∀ (H : Heap) (locs : List Loc) (ls : Array Slot) (σ : za_h), za_I D ca n0 s σ H locs → lv_has ls 10 [] → zf_Mo_submit_154 σ = some (r, σ') → W p l e ({ frames := 2, cells := 0, slots := 0, locals := 43 }) s m ([.ref ay0, .int xy1, .int xy2, .int xy3, .int xy4, .int xy5, .int xy6, .int xy7] : List Value).toArray below meth c H locs 0 0 (MQ below (za_Qi D ca n0 r σ') ([.ref ay0, .int xy1, .int xy2, .int xy3, .int xy4, .int xy5, .int xy6, .int xy7] : List Value).toArray s 0 0 (za_A n0)) (F0 m 154 ls []) := by
    intro H locs ls σ hI hl h
    unfold zf_Mo_submit_154 at h
    refine lv_iconst (v := nI 0) hx hb zd_Mo_submit_154 (by decide) ?_
    exact za_zret hx hb hr hlk hI (by decide) h (Nat.le_of_ble_eq_true rfl) (Nat.le_of_ble_eq_true rfl) zd_Mo_submit_155
  have B124 : ∀ (k88 : Nat → Int32 → Int32 → Int32 → Int32 → Int32 → Int32 → Int32 → Int32 → Int32 → za_h → Option (Int32 × za_h)), (∀ (H : Heap) (locs : List Loc) (ls : Array Slot) (a0 : Nat) (x1 : Int32) (x2 : Int32) (x3 : Int32) (x4 : Int32) (x5 : Int32) (x6 : Int32) (x7 : Int32) (x8 : Int32) (x9 : Int32) (σ : za_h), za_I D ca n0 s σ H locs → lv_has ls 10 [(0, .ref a0), (1, .int x1), (2, .int x2), (3, .int x3), (4, .int x4), (5, .int x5), (6, .int x6), (7, .int x7), (8, .int x8), (9, .int x9)] → k88 a0 x1 x2 x3 x4 x5 x6 x7 x8 x9 σ = some (r, σ') → W p l e ({ frames := 2, cells := 0, slots := 0, locals := 43 }) s m ([.ref ay0, .int xy1, .int xy2, .int xy3, .int xy4, .int xy5, .int xy6, .int xy7] : List Value).toArray below meth c H locs 0 0 (MQ below (za_Qi D ca n0 r σ') ([.ref ay0, .int xy1, .int xy2, .int xy3, .int xy4, .int xy5, .int xy6, .int xy7] : List Value).toArray s 0 0 (za_A n0)) (F0 m 88 ls [])) → ∀ (H : Heap) (locs : List Loc) (ls : Array Slot) (a0 : Nat) (x1 : Int32) (x2 : Int32) (x3 : Int32) (x4 : Int32) (x5 : Int32) (x6 : Int32) (x7 : Int32) (x9 : Int32) (xs0 : Int32) (σ : za_h), za_I D ca n0 s σ H locs → lv_has ls 10 [(0, .ref a0), (1, .int x1), (2, .int x2), (3, .int x3), (4, .int x4), (5, .int x5), (6, .int x6), (7, .int x7), (9, .int x9)] → zf_Mo_submit_124 k88 a0 x1 x2 x3 x4 x5 x6 x7 x9 xs0 σ = some (r, σ') → W p l e ({ frames := 2, cells := 0, slots := 0, locals := 43 }) s m ([.ref ay0, .int xy1, .int xy2, .int xy3, .int xy4, .int xy5, .int xy6, .int xy7] : List Value).toArray below meth c H locs 0 0 (MQ below (za_Qi D ca n0 r σ') ([.ref ay0, .int xy1, .int xy2, .int xy3, .int xy4, .int xy5, .int xy6, .int xy7] : List Value).toArray s 0 0 (za_A n0)) (F0 m 124 ls [.int xs0]) := by
    intro k88 hk88 H locs ls a0 x1 x2 x3 x4 x5 x6 x7 x9 xs0 σ hI hl h
    unfold zf_Mo_submit_124 at h
    refine lv_istore (lv' := [(8, .int xs0), (0, .ref a0), (1, .int x1), (2, .int x2), (3, .int x3), (4, .int x4), (5, .int x5), (6, .int x6), (7, .int x7), (9, .int x9)]) hx hb zd_Mo_submit_124 hl (Nat.le_of_ble_eq_true rfl) rfl (fun ls hl => ?_)
    refine lv_iinc (k := 9) (v := (x9 + nI 1)) (lv' := [(9, .int (x9 + nI 1)), (8, .int xs0), (0, .ref a0), (1, .int x1), (2, .int x2), (3, .int x3), (4, .int x4), (5, .int x5), (6, .int x6), (7, .int x7)]) hx hb zd_Mo_submit_126 hl rfl rfl (Nat.le_of_ble_eq_true rfl) rfl (fun ls hl => ?_)
    refine lv_goto hx hb (tgt := 88) zd_Mo_submit_129 (by decide) ?_
    exact hk88 _ _ ls a0 x1 x2 x3 x4 x5 x6 x7 xs0 (x9 + nI 1) σ hI (lv_sub hl [2, 3, 4, 5, 6, 7, 8, 9, 1, 0] rfl) h
  have B123 : ∀ (k88 : Nat → Int32 → Int32 → Int32 → Int32 → Int32 → Int32 → Int32 → Int32 → Int32 → za_h → Option (Int32 × za_h)), (∀ (H : Heap) (locs : List Loc) (ls : Array Slot) (a0 : Nat) (x1 : Int32) (x2 : Int32) (x3 : Int32) (x4 : Int32) (x5 : Int32) (x6 : Int32) (x7 : Int32) (x8 : Int32) (x9 : Int32) (σ : za_h), za_I D ca n0 s σ H locs → lv_has ls 10 [(0, .ref a0), (1, .int x1), (2, .int x2), (3, .int x3), (4, .int x4), (5, .int x5), (6, .int x6), (7, .int x7), (8, .int x8), (9, .int x9)] → k88 a0 x1 x2 x3 x4 x5 x6 x7 x8 x9 σ = some (r, σ') → W p l e ({ frames := 2, cells := 0, slots := 0, locals := 43 }) s m ([.ref ay0, .int xy1, .int xy2, .int xy3, .int xy4, .int xy5, .int xy6, .int xy7] : List Value).toArray below meth c H locs 0 0 (MQ below (za_Qi D ca n0 r σ') ([.ref ay0, .int xy1, .int xy2, .int xy3, .int xy4, .int xy5, .int xy6, .int xy7] : List Value).toArray s 0 0 (za_A n0)) (F0 m 88 ls [])) → ∀ (H : Heap) (locs : List Loc) (ls : Array Slot) (a0 : Nat) (x1 : Int32) (x2 : Int32) (x3 : Int32) (x4 : Int32) (x5 : Int32) (x6 : Int32) (x7 : Int32) (x9 : Int32) (σ : za_h), za_I D ca n0 s σ H locs → lv_has ls 10 [(0, .ref a0), (1, .int x1), (2, .int x2), (3, .int x3), (4, .int x4), (5, .int x5), (6, .int x6), (7, .int x7), (9, .int x9)] → zf_Mo_submit_123 k88 a0 x1 x2 x3 x4 x5 x6 x7 x9 σ = some (r, σ') → W p l e ({ frames := 2, cells := 0, slots := 0, locals := 43 }) s m ([.ref ay0, .int xy1, .int xy2, .int xy3, .int xy4, .int xy5, .int xy6, .int xy7] : List Value).toArray below meth c H locs 0 0 (MQ below (za_Qi D ca n0 r σ') ([.ref ay0, .int xy1, .int xy2, .int xy3, .int xy4, .int xy5, .int xy6, .int xy7] : List Value).toArray s 0 0 (za_A n0)) (F0 m 123 ls []) := by
    intro k88 hk88 H locs ls a0 x1 x2 x3 x4 x5 x6 x7 x9 σ hI hl h
    unfold zf_Mo_submit_123 at h
    refine lv_iconst (v := nI 0) hx hb zd_Mo_submit_123 (by decide) ?_
    exact B124 _ hk88 _ _ ls a0 x1 x2 x3 x4 x5 x6 x7 x9 (nI 0) σ hI (lv_sub hl [0, 1, 2, 3, 4, 5, 6, 7, 8] rfl) h
  have B119 : ∀ (k88 : Nat → Int32 → Int32 → Int32 → Int32 → Int32 → Int32 → Int32 → Int32 → Int32 → za_h → Option (Int32 × za_h)), (∀ (H : Heap) (locs : List Loc) (ls : Array Slot) (a0 : Nat) (x1 : Int32) (x2 : Int32) (x3 : Int32) (x4 : Int32) (x5 : Int32) (x6 : Int32) (x7 : Int32) (x8 : Int32) (x9 : Int32) (σ : za_h), za_I D ca n0 s σ H locs → lv_has ls 10 [(0, .ref a0), (1, .int x1), (2, .int x2), (3, .int x3), (4, .int x4), (5, .int x5), (6, .int x6), (7, .int x7), (8, .int x8), (9, .int x9)] → k88 a0 x1 x2 x3 x4 x5 x6 x7 x8 x9 σ = some (r, σ') → W p l e ({ frames := 2, cells := 0, slots := 0, locals := 43 }) s m ([.ref ay0, .int xy1, .int xy2, .int xy3, .int xy4, .int xy5, .int xy6, .int xy7] : List Value).toArray below meth c H locs 0 0 (MQ below (za_Qi D ca n0 r σ') ([.ref ay0, .int xy1, .int xy2, .int xy3, .int xy4, .int xy5, .int xy6, .int xy7] : List Value).toArray s 0 0 (za_A n0)) (F0 m 88 ls [])) → ∀ (H : Heap) (locs : List Loc) (ls : Array Slot) (a0 : Nat) (x1 : Int32) (x2 : Int32) (x3 : Int32) (x4 : Int32) (x5 : Int32) (x6 : Int32) (x7 : Int32) (x9 : Int32) (σ : za_h), za_I D ca n0 s σ H locs → lv_has ls 10 [(0, .ref a0), (1, .int x1), (2, .int x2), (3, .int x3), (4, .int x4), (5, .int x5), (6, .int x6), (7, .int x7), (9, .int x9)] → zf_Mo_submit_119 k88 a0 x1 x2 x3 x4 x5 x6 x7 x9 σ = some (r, σ') → W p l e ({ frames := 2, cells := 0, slots := 0, locals := 43 }) s m ([.ref ay0, .int xy1, .int xy2, .int xy3, .int xy4, .int xy5, .int xy6, .int xy7] : List Value).toArray below meth c H locs 0 0 (MQ below (za_Qi D ca n0 r σ') ([.ref ay0, .int xy1, .int xy2, .int xy3, .int xy4, .int xy5, .int xy6, .int xy7] : List Value).toArray s 0 0 (za_A n0)) (F0 m 119 ls []) := by
    intro k88 hk88 H locs ls a0 x1 x2 x3 x4 x5 x6 x7 x9 σ hI hl h
    unfold zf_Mo_submit_119 at h
    refine lv_iconst (v := nI 1) hx hb zd_Mo_submit_119 (by decide) ?_
    refine lv_goto hx hb (tgt := 124) zd_Mo_submit_120 (by decide) ?_
    exact B124 _ hk88 _ _ ls a0 x1 x2 x3 x4 x5 x6 x7 x9 (nI 1) σ hI (lv_sub hl [0, 1, 2, 3, 4, 5, 6, 7, 8] rfl) h
  have B88 : ∀ n : Nat, ∀ (H : Heap) (locs : List Loc) (ls : Array Slot) (a0 : Nat) (x1 : Int32) (x2 : Int32) (x3 : Int32) (x4 : Int32) (x5 : Int32) (x6 : Int32) (x7 : Int32) (x8 : Int32) (x9 : Int32) (σ : za_h), za_I D ca n0 s σ H locs → lv_has ls 10 [(0, .ref a0), (1, .int x1), (2, .int x2), (3, .int x3), (4, .int x4), (5, .int x5), (6, .int x6), (7, .int x7), (8, .int x8), (9, .int x9)] → zf_Mo_submit_88 n a0 x1 x2 x3 x4 x5 x6 x7 x8 x9 σ = some (r, σ') → W p l e ({ frames := 2, cells := 0, slots := 0, locals := 43 }) s m ([.ref ay0, .int xy1, .int xy2, .int xy3, .int xy4, .int xy5, .int xy6, .int xy7] : List Value).toArray below meth c H locs 0 0 (MQ below (za_Qi D ca n0 r σ') ([.ref ay0, .int xy1, .int xy2, .int xy3, .int xy4, .int xy5, .int xy6, .int xy7] : List Value).toArray s 0 0 (za_A n0)) (F0 m 88 ls []) := by
    intro n
    induction n with
    | zero => intro H locs ls a0 x1 x2 x3 x4 x5 x6 x7 x8 x9 σ hI hl h; rw [zf_Mo_submit_88] at h; cases h
    | succ n ih =>
      intro H locs ls a0 x1 x2 x3 x4 x5 x6 x7 x8 x9 σ hI hl h
      rw [zf_Mo_submit_88] at h
      refine lv_iload hx hb zd_Mo_submit_88 (lv_at hl 9 rfl) ?_
      refine lv_iconst (v := nI 5) hx hb zd_Mo_submit_90 (by decide) ?_
      refine lv_icmp_ge hx hb (tgt := 132) zd_Mo_submit_91 (by decide) (fun c1 => ?_) (fun c1 => ?_)
      · replace h := zb_t c1 h
        refine lv_iconst (v := nI 3) hx hb zd_Mo_submit_132 (by decide) ?_
        refine lv_iload_n hx hb zd_Mo_submit_133 rfl (lv_at hl 1 rfl) ?_
        refine lv_imul hx hb zd_Mo_submit_134 ?_
        refine lv_iload_n hx hb zd_Mo_submit_135 rfl (lv_at hl 2 rfl) ?_
        refine lv_iadd hx hb zd_Mo_submit_136 ?_
        refine lv_istore (lv' := [(9, .int (((nI 3) * x1) + x2)), (0, .ref a0), (1, .int x1), (2, .int x2), (3, .int x3), (4, .int x4), (5, .int x5), (6, .int x6), (7, .int x7), (8, .int x8)]) hx hb zd_Mo_submit_137 hl (Nat.le_of_ble_eq_true rfl) rfl (fun ls hl => ?_)
        refine lv_iload hx hb zd_Mo_submit_139 (lv_at hl 9 rfl) ?_
        refine lv_if_eq hx hb (tgt := 154) zd_Mo_submit_141 (by decide) (fun c2 => ?_) (fun c2 => ?_)
        · replace h := zb_t c2 h
          exact B154 _ _ ls σ hI (lv_sub hl [] rfl) h
        · replace h := zb_f c2 h
          refine lv_aload_n hx hb zd_Mo_submit_144 rfl (lv_at hl 1 rfl) ?_
          obtain ⟨b4, e3, h⟩ := zb_o h
          refine za_getr hx hb hts hown hK hI zl_Mo_62 e3 zd_Mo_submit_145 ?_
          refine lv_iload hx hb zd_Mo_submit_148 (lv_at hl 0 rfl) ?_
          obtain ⟨v5, e6, h⟩ := zb_o h
          refine za_zald hx hb hK hI e6 zd_Mo_submit_150 ?_
          refine lv_if_eq hx hb (tgt := 156) zd_Mo_submit_151 (by decide) (fun c7 => ?_) (fun c7 => ?_)
          · replace h := zb_t c7 h
            refine lv_aload_n hx hb zd_Mo_submit_156 rfl (lv_at hl 1 rfl) ?_
            obtain ⟨b9, e8, h⟩ := zb_o h
            refine za_getr hx hb hts hown hK hI zl_Mo_62 e8 zd_Mo_submit_157 ?_
            refine lv_iload hx hb zd_Mo_submit_160 (lv_at hl 0 rfl) ?_
            refine lv_iconst (v := nI 1) hx hb zd_Mo_submit_162 (by decide) ?_
            obtain ⟨σ10, e11, h⟩ := zb_o h
            refine za_zast hx hb hK hI e11 zd_Mo_submit_163 (fun H locs hI => ?_)
            refine lv_aload_n hx hb zd_Mo_submit_164 rfl (lv_at hl 1 rfl) ?_
            obtain ⟨b13, e12, h⟩ := zb_o h
            refine za_getr hx hb hts hown hK hI zl_Mo_65 e12 zd_Mo_submit_165 ?_
            refine lv_iload hx hb zd_Mo_submit_168 (lv_at hl 0 rfl) ?_
            refine lv_iload_n hx hb zd_Mo_submit_170 rfl (lv_at hl 4 rfl) ?_
            obtain ⟨σ14, e15, h⟩ := zb_o h
            refine za_iast hx hb hK hI e15 zd_Mo_submit_171 (fun H locs hI => ?_)
            refine lv_aload_n hx hb zd_Mo_submit_172 rfl (lv_at hl 1 rfl) ?_
            obtain ⟨b17, e16, h⟩ := zb_o h
            refine za_getr hx hb hts hown hK hI zl_Mo_68 e16 zd_Mo_submit_173 ?_
            refine lv_iload hx hb zd_Mo_submit_176 (lv_at hl 0 rfl) ?_
            refine lv_iload hx hb zd_Mo_submit_178 (lv_at hl 5 rfl) ?_
            obtain ⟨σ18, e19, h⟩ := zb_o h
            refine za_iast hx hb hK hI e19 zd_Mo_submit_180 (fun H locs hI => ?_)
            refine lv_aload_n hx hb zd_Mo_submit_181 rfl (lv_at hl 1 rfl) ?_
            obtain ⟨b21, e20, h⟩ := zb_o h
            refine za_getr hx hb hts hown hK hI zl_Mo_71 e20 zd_Mo_submit_182 ?_
            refine lv_iload hx hb zd_Mo_submit_185 (lv_at hl 0 rfl) ?_
            refine lv_iload hx hb zd_Mo_submit_187 (lv_at hl 6 rfl) ?_
            obtain ⟨σ22, e23, h⟩ := zb_o h
            refine za_iast hx hb hK hI e23 zd_Mo_submit_189 (fun H locs hI => ?_)
            refine lv_aload_n hx hb zd_Mo_submit_190 rfl (lv_at hl 1 rfl) ?_
            obtain ⟨b25, e24, h⟩ := zb_o h
            refine za_getr hx hb hts hown hK hI zl_Mo_74 e24 zd_Mo_submit_191 ?_
            refine lv_iload hx hb zd_Mo_submit_194 (lv_at hl 0 rfl) ?_
            refine lv_iload hx hb zd_Mo_submit_196 (lv_at hl 7 rfl) ?_
            obtain ⟨σ26, e27, h⟩ := zb_o h
            refine za_iast hx hb hK hI e27 zd_Mo_submit_198 (fun H locs hI => ?_)
            refine lv_aload_n hx hb zd_Mo_submit_199 rfl (lv_at hl 1 rfl) ?_
            obtain ⟨b29, e28, h⟩ := zb_o h
            refine za_getr hx hb hts hown hK hI zl_Mo_77 e28 zd_Mo_submit_200 ?_
            refine lv_iload hx hb zd_Mo_submit_203 (lv_at hl 0 rfl) ?_
            refine lv_iload hx hb zd_Mo_submit_205 (lv_at hl 8 rfl) ?_
            obtain ⟨σ30, e31, h⟩ := zb_o h
            refine za_iast hx hb hK hI e31 zd_Mo_submit_207 (fun H locs hI => ?_)
            refine lv_iconst (v := nI 1) hx hb zd_Mo_submit_208 (by decide) ?_
            exact za_zret hx hb hr hlk hI (by decide) h (Nat.le_of_ble_eq_true rfl) (Nat.le_of_ble_eq_true rfl) zd_Mo_submit_209
          · replace h := zb_f c7 h
            exact B154 _ _ ls σ hI (lv_sub hl [] rfl) h
      · replace h := zb_f c1 h
        refine lv_iload hx hb zd_Mo_submit_94 (lv_at hl 8 rfl) ?_
        refine lv_if_eq hx hb (tgt := 123) zd_Mo_submit_96 (by decide) (fun c32 => ?_) (fun c32 => ?_)
        · replace h := zb_t c32 h
          exact B123 _ ih _ _ ls a0 x1 x2 x3 x4 x5 x6 x7 x9 σ hI (lv_sub hl [0, 1, 2, 3, 4, 5, 6, 7, 9] rfl) h
        · replace h := zb_f c32 h
          refine lv_aload_n hx hb zd_Mo_submit_99 rfl (lv_at hl 0 rfl) ?_
          refine lv_iload hx hb zd_Mo_submit_100 (lv_at hl 9 rfl) ?_
          obtain ⟨_, g33, h⟩ := zb_o h
          obtain ⟨⟨r34, σ35⟩, e36, h⟩ := zb_o h
          refine za_calli (za_runV hx hb hml hown hts hK hI g33 (zm_Mo_good e36) zj_Mo_190 ⟨rfl, rfl⟩ ⟨Nat.le_of_ble_eq_true rfl, Nat.le_of_ble_eq_true rfl⟩ rfl hl.1 rfl (Nat.le_of_ble_eq_true rfl) zd_Mo_submit_102 ⟨Nat.le_of_ble_eq_true rfl, Nat.le_of_ble_eq_true rfl⟩) hI (fun H locs hI => ?_)
          refine lv_if_eq hx hb (tgt := 119) zd_Mo_submit_105 (by decide) (fun c37 => ?_) (fun c37 => ?_)
          · replace h := zb_t c37 h
            exact B119 _ ih _ _ ls a0 x1 x2 x3 x4 x5 x6 x7 x9 σ35 hI (lv_sub hl [0, 1, 2, 3, 4, 5, 6, 7, 9] rfl) h
          · replace h := zb_f c37 h
            refine lv_aload_n hx hb zd_Mo_submit_108 rfl (lv_at hl 0 rfl) ?_
            obtain ⟨b39, e38, h⟩ := zb_o h
            refine za_getr hx hb hts hown hK hI zl_Mo_26 e38 zd_Mo_submit_109 ?_
            refine lv_iload hx hb zd_Mo_submit_112 (lv_at hl 9 rfl) ?_
            obtain ⟨v40, e41, h⟩ := zb_o h
            refine za_iald hx hb hK hI e41 zd_Mo_submit_114 ?_
            refine lv_iload_n hx hb zd_Mo_submit_115 rfl (lv_at hl 1 rfl) ?_
            refine lv_icmp_gt hx hb (tgt := 123) zd_Mo_submit_116 (by decide) (fun c42 => ?_) (fun c42 => ?_)
            · replace h := zb_t c42 h
              exact B123 _ ih _ _ ls a0 x1 x2 x3 x4 x5 x6 x7 x9 σ35 hI (lv_sub hl [0, 1, 2, 3, 4, 5, 6, 7, 9] rfl) h
            · replace h := zb_f c42 h
              exact B119 _ ih _ _ ls a0 x1 x2 x3 x4 x5 x6 x7 x9 σ35 hI (lv_sub hl [0, 1, 2, 3, 4, 5, 6, 7, 9] rfl) h
  have B83 : ∀ (H : Heap) (locs : List Loc) (ls : Array Slot) (a0 : Nat) (x1 : Int32) (x2 : Int32) (x3 : Int32) (x4 : Int32) (x5 : Int32) (x6 : Int32) (x7 : Int32) (xs0 : Int32) (σ : za_h), za_I D ca n0 s σ H locs → lv_has ls 10 [(0, .ref a0), (1, .int x1), (2, .int x2), (3, .int x3), (4, .int x4), (5, .int x5), (6, .int x6), (7, .int x7)] → zf_Mo_submit_83 a0 x1 x2 x3 x4 x5 x6 x7 xs0 σ = some (r, σ') → W p l e ({ frames := 2, cells := 0, slots := 0, locals := 43 }) s m ([.ref ay0, .int xy1, .int xy2, .int xy3, .int xy4, .int xy5, .int xy6, .int xy7] : List Value).toArray below meth c H locs 0 0 (MQ below (za_Qi D ca n0 r σ') ([.ref ay0, .int xy1, .int xy2, .int xy3, .int xy4, .int xy5, .int xy6, .int xy7] : List Value).toArray s 0 0 (za_A n0)) (F0 m 83 ls [.int xs0]) := by
    intro H locs ls a0 x1 x2 x3 x4 x5 x6 x7 xs0 σ hI hl h
    unfold zf_Mo_submit_83 at h
    refine lv_istore (lv' := [(8, .int xs0), (0, .ref a0), (1, .int x1), (2, .int x2), (3, .int x3), (4, .int x4), (5, .int x5), (6, .int x6), (7, .int x7)]) hx hb zd_Mo_submit_83 hl (Nat.le_of_ble_eq_true rfl) rfl (fun ls hl => ?_)
    refine lv_iconst (v := nI 0) hx hb zd_Mo_submit_85 (by decide) ?_
    refine lv_istore (lv' := [(9, .int (nI 0)), (8, .int xs0), (0, .ref a0), (1, .int x1), (2, .int x2), (3, .int x3), (4, .int x4), (5, .int x5), (6, .int x6), (7, .int x7)]) hx hb zd_Mo_submit_86 hl (Nat.le_of_ble_eq_true rfl) rfl (fun ls hl => ?_)
    exact B88 6 _ _ ls a0 x1 x2 x3 x4 x5 x6 x7 xs0 (nI 0) σ hI (lv_sub hl [2, 3, 4, 5, 6, 7, 8, 9, 1, 0] rfl) h
  unfold zf_Mo_submit at h
  refine lv_iload_n hx hb zd_Mo_submit_0 rfl (lv_at hl 1 rfl) ?_
  refine lv_iconst (v := nI 0) hx hb zd_Mo_submit_1 (by decide) ?_
  refine lv_iconst (v := nI 2) hx hb zd_Mo_submit_2 (by decide) ?_
  obtain ⟨⟨r1, σ2⟩, e3, h⟩ := zb_o h
  refine za_calli (za_runS hx hb hml hown hts hK hI (zm_Mo_in e3) zj_Mo_105 ⟨rfl, rfl⟩ ⟨Nat.le_of_ble_eq_true rfl, Nat.le_of_ble_eq_true rfl⟩ rfl hl.1 rfl (Nat.le_of_ble_eq_true rfl) zd_Mo_submit_3 ⟨Nat.le_of_ble_eq_true rfl, Nat.le_of_ble_eq_true rfl⟩) hI (fun H locs hI => ?_)
  refine lv_if_eq hx hb (tgt := 59) zd_Mo_submit_6 (by decide) (fun c4 => ?_) (fun c4 => ?_)
  · replace h := zb_t c4 h
    exact B59 _ _ ls σ2 hI (lv_sub hl [] rfl) h
  · replace h := zb_f c4 h
    refine lv_iload_n hx hb zd_Mo_submit_9 rfl (lv_at hl 2 rfl) ?_
    refine lv_iconst (v := nI 0) hx hb zd_Mo_submit_10 (by decide) ?_
    refine lv_iconst (v := nI 2) hx hb zd_Mo_submit_11 (by decide) ?_
    obtain ⟨⟨r5, σ6⟩, e7, h⟩ := zb_o h
    refine za_calli (za_runS hx hb hml hown hts hK hI (zm_Mo_in e7) zj_Mo_105 ⟨rfl, rfl⟩ ⟨Nat.le_of_ble_eq_true rfl, Nat.le_of_ble_eq_true rfl⟩ rfl hl.1 rfl (Nat.le_of_ble_eq_true rfl) zd_Mo_submit_12 ⟨Nat.le_of_ble_eq_true rfl, Nat.le_of_ble_eq_true rfl⟩) hI (fun H locs hI => ?_)
    refine lv_if_eq hx hb (tgt := 59) zd_Mo_submit_15 (by decide) (fun c8 => ?_) (fun c8 => ?_)
    · replace h := zb_t c8 h
      exact B59 _ _ ls σ6 hI (lv_sub hl [] rfl) h
    · replace h := zb_f c8 h
      refine lv_iload_n hx hb zd_Mo_submit_18 rfl (lv_at hl 3 rfl) ?_
      refine lv_iconst (v := nI 0) hx hb zd_Mo_submit_19 (by decide) ?_
      refine lv_iconst (v := nI 1) hx hb zd_Mo_submit_20 (by decide) ?_
      obtain ⟨⟨r9, σ10⟩, e11, h⟩ := zb_o h
      refine za_calli (za_runS hx hb hml hown hts hK hI (zm_Mo_in e11) zj_Mo_105 ⟨rfl, rfl⟩ ⟨Nat.le_of_ble_eq_true rfl, Nat.le_of_ble_eq_true rfl⟩ rfl hl.1 rfl (Nat.le_of_ble_eq_true rfl) zd_Mo_submit_21 ⟨Nat.le_of_ble_eq_true rfl, Nat.le_of_ble_eq_true rfl⟩) hI (fun H locs hI => ?_)
      refine lv_if_eq hx hb (tgt := 59) zd_Mo_submit_24 (by decide) (fun c12 => ?_) (fun c12 => ?_)
      · replace h := zb_t c12 h
        exact B59 _ _ ls σ10 hI (lv_sub hl [] rfl) h
      · replace h := zb_f c12 h
        refine lv_iload hx hb zd_Mo_submit_27 (lv_at hl 4 rfl) ?_
        refine lv_iconst (v := nI 0) hx hb zd_Mo_submit_29 (by decide) ?_
        refine lv_iconst (v := nI 3) hx hb zd_Mo_submit_30 (by decide) ?_
        obtain ⟨⟨r13, σ14⟩, e15, h⟩ := zb_o h
        refine za_calli (za_runS hx hb hml hown hts hK hI (zm_Mo_in e15) zj_Mo_105 ⟨rfl, rfl⟩ ⟨Nat.le_of_ble_eq_true rfl, Nat.le_of_ble_eq_true rfl⟩ rfl hl.1 rfl (Nat.le_of_ble_eq_true rfl) zd_Mo_submit_31 ⟨Nat.le_of_ble_eq_true rfl, Nat.le_of_ble_eq_true rfl⟩) hI (fun H locs hI => ?_)
        refine lv_if_eq hx hb (tgt := 59) zd_Mo_submit_34 (by decide) (fun c16 => ?_) (fun c16 => ?_)
        · replace h := zb_t c16 h
          exact B59 _ _ ls σ14 hI (lv_sub hl [] rfl) h
        · replace h := zb_f c16 h
          refine lv_iload hx hb zd_Mo_submit_37 (lv_at hl 5 rfl) ?_
          refine lv_iconst (v := nI 0) hx hb zd_Mo_submit_39 (by decide) ?_
          refine lv_iconst (v := nI 1) hx hb zd_Mo_submit_40 (by decide) ?_
          obtain ⟨⟨r17, σ18⟩, e19, h⟩ := zb_o h
          refine za_calli (za_runS hx hb hml hown hts hK hI (zm_Mo_in e19) zj_Mo_105 ⟨rfl, rfl⟩ ⟨Nat.le_of_ble_eq_true rfl, Nat.le_of_ble_eq_true rfl⟩ rfl hl.1 rfl (Nat.le_of_ble_eq_true rfl) zd_Mo_submit_41 ⟨Nat.le_of_ble_eq_true rfl, Nat.le_of_ble_eq_true rfl⟩) hI (fun H locs hI => ?_)
          refine lv_if_eq hx hb (tgt := 59) zd_Mo_submit_44 (by decide) (fun c20 => ?_) (fun c20 => ?_)
          · replace h := zb_t c20 h
            exact B59 _ _ ls σ18 hI (lv_sub hl [] rfl) h
          · replace h := zb_f c20 h
            refine lv_iload hx hb zd_Mo_submit_47 (lv_at hl 7 rfl) ?_
            refine lv_iconst (v := nI 1) hx hb zd_Mo_submit_49 (by decide) ?_
            refine lv_sipush (v := nI 1000) hx hb zd_Mo_submit_50 (by decide) ?_
            obtain ⟨⟨r21, σ22⟩, e23, h⟩ := zb_o h
            refine za_calli (za_runS hx hb hml hown hts hK hI (zm_Mo_in e23) zj_Mo_105 ⟨rfl, rfl⟩ ⟨Nat.le_of_ble_eq_true rfl, Nat.le_of_ble_eq_true rfl⟩ rfl hl.1 rfl (Nat.le_of_ble_eq_true rfl) zd_Mo_submit_53 ⟨Nat.le_of_ble_eq_true rfl, Nat.le_of_ble_eq_true rfl⟩) hI (fun H locs hI => ?_)
            refine lv_if_ne hx hb (tgt := 61) zd_Mo_submit_56 (by decide) (fun c24 => ?_) (fun c24 => ?_)
            · replace h := zb_f c24 h
              refine lv_iload_n hx hb zd_Mo_submit_61 rfl (lv_at hl 3 rfl) ?_
              refine lv_if_ne hx hb (tgt := 75) zd_Mo_submit_62 (by decide) (fun c25 => ?_) (fun c25 => ?_)
              · replace h := zb_f c25 h
                refine lv_iload hx hb zd_Mo_submit_75 (lv_at hl 6 rfl) ?_
                refine lv_iconst (v := nI 1) hx hb zd_Mo_submit_77 (by decide) ?_
                refine lv_bipush (v := nI 9) hx hb zd_Mo_submit_78 (by decide) ?_
                obtain ⟨⟨r26, σ27⟩, e28, h⟩ := zb_o h
                refine za_calli (za_runS hx hb hml hown hts hK hI (zm_Mo_in e28) zj_Mo_105 ⟨rfl, rfl⟩ ⟨Nat.le_of_ble_eq_true rfl, Nat.le_of_ble_eq_true rfl⟩ rfl hl.1 rfl (Nat.le_of_ble_eq_true rfl) zd_Mo_submit_80 ⟨Nat.le_of_ble_eq_true rfl, Nat.le_of_ble_eq_true rfl⟩) hI (fun H locs hI => ?_)
                exact B83 _ _ ls ay0 xy1 xy2 xy3 xy4 xy5 xy6 xy7 r26 σ27 hI (lv_sub hl [0, 1, 2, 3, 4, 5, 6, 7] rfl) h
              · replace h := zb_t c25 h
                refine lv_iload hx hb zd_Mo_submit_65 (lv_at hl 6 rfl) ?_
                refine lv_iconst (v := nI 0) hx hb zd_Mo_submit_67 (by decide) ?_
                refine lv_iconst (v := nI 3) hx hb zd_Mo_submit_68 (by decide) ?_
                obtain ⟨⟨r29, σ30⟩, e31, h⟩ := zb_o h
                refine za_calli (za_runS hx hb hml hown hts hK hI (zm_Mo_in e31) zj_Mo_105 ⟨rfl, rfl⟩ ⟨Nat.le_of_ble_eq_true rfl, Nat.le_of_ble_eq_true rfl⟩ rfl hl.1 rfl (Nat.le_of_ble_eq_true rfl) zd_Mo_submit_69 ⟨Nat.le_of_ble_eq_true rfl, Nat.le_of_ble_eq_true rfl⟩) hI (fun H locs hI => ?_)
                refine lv_goto hx hb (tgt := 83) zd_Mo_submit_72 (by decide) ?_
                exact B83 _ _ ls ay0 xy1 xy2 xy3 xy4 xy5 xy6 xy7 r29 σ30 hI (lv_sub hl [0, 1, 2, 3, 4, 5, 6, 7] rfl) h
            · replace h := zb_t c24 h
              exact B59 _ _ ls σ22 hI (lv_sub hl [] rfl) h

def zf_Mo_state_17  (σ : za_h) : Option (Int32 × za_h) :=
  some ((-1), σ)

def zf_Mo_state_47 (xs0 : Int32) (σ : za_h) : Option (Int32 × za_h) :=
  some (xs0, σ)

def zf_Mo_state_33 (a0 : Nat) (x1 : Int32) (x2 : Int32) (σ : za_h) : Option (Int32 × za_h) :=
  if x2 = 0 then
  ((zg_r σ a0 10 7).bind fun b3 =>
  (za_ld σ b3 0 x1).bind fun v4 =>
  zf_Mo_state_47 v4 σ)
  else
  (zf_Mo_state_47 (nI 0) σ)

def zf_Mo_state_109 (xs0 : Int32) (σ : za_h) : Option (Int32 × za_h) :=
  some (xs0, σ)

def zf_Mo_state (ay0 : Nat) (xy1 : Int32) (xy2 : Int32) (σ : za_h) : Option (Int32 × za_h) :=
  (zg_c σ ay0 10).bind fun _ =>
  (zf_Mo_good ay0 xy1 σ).bind fun (r2, σ3) =>
  if r2 = 0 then
  (zf_Mo_state_17 σ3)
  else
  ((zf_Mo_in xy2 (nI 0) (nI 5) σ3).bind fun (r6, σ7) =>
  if r6 = 0 then
  (zf_Mo_state_17 σ7)
  else
  (if xy2 = 0 then
  (zf_Mo_state_33 ay0 xy1 xy2 σ7)
  else
  ((zg_r σ7 ay0 10 7).bind fun b12 =>
  (za_ld σ7 b12 0 xy1).bind fun v13 =>
  if v13 = (nI 3) then
  (zf_Mo_state_33 ay0 xy1 xy2 σ7)
  else
  (if xy2 = (nI 1) then
  ((zg_r σ7 ay0 10 8).bind fun b37 =>
  (za_ld σ7 b37 0 xy1).bind fun v38 =>
  zf_Mo_state_109 v38 σ7)
  else
  (if xy2 = (nI 2) then
  ((zg_r σ7 ay0 10 9).bind fun b33 =>
  (za_ld σ7 b33 0 xy1).bind fun v34 =>
  zf_Mo_state_109 v34 σ7)
  else
  (if xy2 = (nI 3) then
  ((zg_r σ7 ay0 10 10).bind fun b29 =>
  (za_ld σ7 b29 0 xy1).bind fun v30 =>
  zf_Mo_state_109 v30 σ7)
  else
  (if xy2 = (nI 4) then
  ((zg_c σ7 ay0 10).bind fun _ =>
  (zf_Mo_composite ay0 xy1 σ7).bind fun (r25, σ26) =>
  zf_Mo_state_109 r25 σ26)
  else
  ((zg_r σ7 ay0 10 11).bind fun b21 =>
  (za_ld σ7 b21 0 xy1).bind fun v22 =>
  zf_Mo_state_109 v22 σ7))))))))
set_option maxRecDepth 100000 in
set_option maxHeartbeats 4000000 in
theorem zm_Mo_state {l : Launch} {D : va_G} {ca : Nat → ClassId} {n0 : Nat} {ay0 : Nat} {xy1 : Int32} {xy2 : Int32} {σ σ' : za_h} {r : Int32} (h : zf_Mo_state ay0 xy1 xy2 σ = some (r, σ')) : Met l zy_Mo_state (za_wy zy_Mo_state zc_Mo_state 3 (some .int)) { frames := 3, cells := 0, slots := 0, locals := 70 } (za_Pc D ca n0 [.ref ay0, .int xy1, .int xy2] σ) (za_Qi D ca n0 r σ') 0 0 (za_A n0) := by
  refine za_met (by decide) (Nat.le_of_ble_eq_true rfl) ?_
  intro p e s m below meth c ls hx hb hml hr hlk hts hown hnm hK hI hl
  replace hown : s.vm.findClass zR_Mo = some m.cls := hown
  replace hl : lv_has ls 3 [(0, .ref ay0), (1, .int xy1), (2, .int xy2)] := hl
  have B17 : ∀ (H : Heap) (locs : List Loc) (ls : Array Slot) (σ : za_h), za_I D ca n0 s σ H locs → lv_has ls 3 [] → zf_Mo_state_17 σ = some (r, σ') → W p l e ({ frames := 3, cells := 0, slots := 0, locals := 70 }) s m ([.ref ay0, .int xy1, .int xy2] : List Value).toArray below meth c H locs 0 0 (MQ below (za_Qi D ca n0 r σ') ([.ref ay0, .int xy1, .int xy2] : List Value).toArray s 0 0 (za_A n0)) (F0 m 17 ls []) := by
    intro H locs ls σ hI hl h
    unfold zf_Mo_state_17 at h
    refine lv_iconst (v := -1) hx hb zd_Mo_state_17 (by decide) ?_
    exact za_iret hx hb hr hlk hI h (Nat.le_of_ble_eq_true rfl) (Nat.le_of_ble_eq_true rfl) zd_Mo_state_18
  have B47 : ∀ (H : Heap) (locs : List Loc) (ls : Array Slot) (xs0 : Int32) (σ : za_h), za_I D ca n0 s σ H locs → lv_has ls 3 [] → zf_Mo_state_47 xs0 σ = some (r, σ') → W p l e ({ frames := 3, cells := 0, slots := 0, locals := 70 }) s m ([.ref ay0, .int xy1, .int xy2] : List Value).toArray below meth c H locs 0 0 (MQ below (za_Qi D ca n0 r σ') ([.ref ay0, .int xy1, .int xy2] : List Value).toArray s 0 0 (za_A n0)) (F0 m 47 ls [.int xs0]) := by
    intro H locs ls xs0 σ hI hl h
    unfold zf_Mo_state_47 at h
    exact za_iret hx hb hr hlk hI h (Nat.le_of_ble_eq_true rfl) (Nat.le_of_ble_eq_true rfl) zd_Mo_state_47
  have B33 : ∀ (H : Heap) (locs : List Loc) (ls : Array Slot) (a0 : Nat) (x1 : Int32) (x2 : Int32) (σ : za_h), za_I D ca n0 s σ H locs → lv_has ls 3 [(0, .ref a0), (1, .int x1), (2, .int x2)] → zf_Mo_state_33 a0 x1 x2 σ = some (r, σ') → W p l e ({ frames := 3, cells := 0, slots := 0, locals := 70 }) s m ([.ref ay0, .int xy1, .int xy2] : List Value).toArray below meth c H locs 0 0 (MQ below (za_Qi D ca n0 r σ') ([.ref ay0, .int xy1, .int xy2] : List Value).toArray s 0 0 (za_A n0)) (F0 m 33 ls []) := by
    intro H locs ls a0 x1 x2 σ hI hl h
    unfold zf_Mo_state_33 at h
    refine lv_iload_n hx hb zd_Mo_state_33 rfl (lv_at hl 2 rfl) ?_
    refine lv_if_ne hx hb (tgt := 46) zd_Mo_state_34 (by decide) (fun c1 => ?_) (fun c1 => ?_)
    · replace h := zb_f c1 h
      refine lv_iconst (v := nI 0) hx hb zd_Mo_state_46 (by decide) ?_
      exact B47 _ _ ls (nI 0) σ hI (lv_sub hl [] rfl) h
    · replace h := zb_t c1 h
      refine lv_aload_n hx hb zd_Mo_state_37 rfl (lv_at hl 0 rfl) ?_
      obtain ⟨b3, e2, h⟩ := zb_o h
      refine za_getr hx hb hts hown hK hI zl_Mo_26 e2 zd_Mo_state_38 ?_
      refine lv_iload_n hx hb zd_Mo_state_41 rfl (lv_at hl 1 rfl) ?_
      obtain ⟨v4, e5, h⟩ := zb_o h
      refine za_iald hx hb hK hI e5 zd_Mo_state_42 ?_
      refine lv_goto hx hb (tgt := 47) zd_Mo_state_43 (by decide) ?_
      exact B47 _ _ ls v4 σ hI (lv_sub hl [] rfl) h
  have B109 : ∀ (H : Heap) (locs : List Loc) (ls : Array Slot) (xs0 : Int32) (σ : za_h), za_I D ca n0 s σ H locs → lv_has ls 3 [] → zf_Mo_state_109 xs0 σ = some (r, σ') → W p l e ({ frames := 3, cells := 0, slots := 0, locals := 70 }) s m ([.ref ay0, .int xy1, .int xy2] : List Value).toArray below meth c H locs 0 0 (MQ below (za_Qi D ca n0 r σ') ([.ref ay0, .int xy1, .int xy2] : List Value).toArray s 0 0 (za_A n0)) (F0 m 109 ls [.int xs0]) := by
    intro H locs ls xs0 σ hI hl h
    unfold zf_Mo_state_109 at h
    exact za_iret hx hb hr hlk hI h (Nat.le_of_ble_eq_true rfl) (Nat.le_of_ble_eq_true rfl) zd_Mo_state_109
  unfold zf_Mo_state at h
  refine lv_aload_n hx hb zd_Mo_state_0 rfl (lv_at hl 0 rfl) ?_
  refine lv_iload_n hx hb zd_Mo_state_1 rfl (lv_at hl 1 rfl) ?_
  obtain ⟨_, g1, h⟩ := zb_o h
  obtain ⟨⟨r2, σ3⟩, e4, h⟩ := zb_o h
  refine za_calli (za_runV hx hb hml hown hts hK hI g1 (zm_Mo_good e4) zj_Mo_190 ⟨rfl, rfl⟩ ⟨Nat.le_of_ble_eq_true rfl, Nat.le_of_ble_eq_true rfl⟩ rfl hl.1 rfl (Nat.le_of_ble_eq_true rfl) zd_Mo_state_2 ⟨Nat.le_of_ble_eq_true rfl, Nat.le_of_ble_eq_true rfl⟩) hI (fun H locs hI => ?_)
  refine lv_if_eq hx hb (tgt := 17) zd_Mo_state_5 (by decide) (fun c5 => ?_) (fun c5 => ?_)
  · replace h := zb_t c5 h
    exact B17 _ _ ls σ3 hI (lv_sub hl [] rfl) h
  · replace h := zb_f c5 h
    refine lv_iload_n hx hb zd_Mo_state_8 rfl (lv_at hl 2 rfl) ?_
    refine lv_iconst (v := nI 0) hx hb zd_Mo_state_9 (by decide) ?_
    refine lv_iconst (v := nI 5) hx hb zd_Mo_state_10 (by decide) ?_
    obtain ⟨⟨r6, σ7⟩, e8, h⟩ := zb_o h
    refine za_calli (za_runS hx hb hml hown hts hK hI (zm_Mo_in e8) zj_Mo_105 ⟨rfl, rfl⟩ ⟨Nat.le_of_ble_eq_true rfl, Nat.le_of_ble_eq_true rfl⟩ rfl hl.1 rfl (Nat.le_of_ble_eq_true rfl) zd_Mo_state_11 ⟨Nat.le_of_ble_eq_true rfl, Nat.le_of_ble_eq_true rfl⟩) hI (fun H locs hI => ?_)
    refine lv_if_ne hx hb (tgt := 19) zd_Mo_state_14 (by decide) (fun c9 => ?_) (fun c9 => ?_)
    · replace h := zb_f c9 h
      refine lv_iload_n hx hb zd_Mo_state_19 rfl (lv_at hl 2 rfl) ?_
      refine lv_if_eq hx hb (tgt := 33) zd_Mo_state_20 (by decide) (fun c10 => ?_) (fun c10 => ?_)
      · replace h := zb_t c10 h
        exact B33 _ _ ls ay0 xy1 xy2 σ7 hI (lv_sub hl [0, 1, 2] rfl) h
      · replace h := zb_f c10 h
        refine lv_aload_n hx hb zd_Mo_state_23 rfl (lv_at hl 0 rfl) ?_
        obtain ⟨b12, e11, h⟩ := zb_o h
        refine za_getr hx hb hts hown hK hI zl_Mo_26 e11 zd_Mo_state_24 ?_
        refine lv_iload_n hx hb zd_Mo_state_27 rfl (lv_at hl 1 rfl) ?_
        obtain ⟨v13, e14, h⟩ := zb_o h
        refine za_iald hx hb hK hI e14 zd_Mo_state_28 ?_
        refine lv_iconst (v := nI 3) hx hb zd_Mo_state_29 (by decide) ?_
        refine lv_icmp_ne hx hb (tgt := 48) zd_Mo_state_30 (by decide) (fun c15 => ?_) (fun c15 => ?_)
        · replace h := zb_f c15 h
          refine lv_iload_n hx hb zd_Mo_state_48 rfl (lv_at hl 2 rfl) ?_
          refine lv_iconst (v := nI 1) hx hb zd_Mo_state_49 (by decide) ?_
          refine lv_icmp_ne hx hb (tgt := 62) zd_Mo_state_50 (by decide) (fun c16 => ?_) (fun c16 => ?_)
          · replace h := zb_f c16 h
            refine lv_iload_n hx hb zd_Mo_state_62 rfl (lv_at hl 2 rfl) ?_
            refine lv_iconst (v := nI 2) hx hb zd_Mo_state_63 (by decide) ?_
            refine lv_icmp_ne hx hb (tgt := 76) zd_Mo_state_64 (by decide) (fun c17 => ?_) (fun c17 => ?_)
            · replace h := zb_f c17 h
              refine lv_iload_n hx hb zd_Mo_state_76 rfl (lv_at hl 2 rfl) ?_
              refine lv_iconst (v := nI 3) hx hb zd_Mo_state_77 (by decide) ?_
              refine lv_icmp_ne hx hb (tgt := 90) zd_Mo_state_78 (by decide) (fun c18 => ?_) (fun c18 => ?_)
              · replace h := zb_f c18 h
                refine lv_iload_n hx hb zd_Mo_state_90 rfl (lv_at hl 2 rfl) ?_
                refine lv_iconst (v := nI 4) hx hb zd_Mo_state_91 (by decide) ?_
                refine lv_icmp_ne hx hb (tgt := 103) zd_Mo_state_92 (by decide) (fun c19 => ?_) (fun c19 => ?_)
                · replace h := zb_f c19 h
                  refine lv_aload_n hx hb zd_Mo_state_103 rfl (lv_at hl 0 rfl) ?_
                  obtain ⟨b21, e20, h⟩ := zb_o h
                  refine za_getr hx hb hts hown hK hI zl_Mo_38 e20 zd_Mo_state_104 ?_
                  refine lv_iload_n hx hb zd_Mo_state_107 rfl (lv_at hl 1 rfl) ?_
                  obtain ⟨v22, e23, h⟩ := zb_o h
                  refine za_iald hx hb hK hI e23 zd_Mo_state_108 ?_
                  exact B109 _ _ ls v22 σ7 hI (lv_sub hl [] rfl) h
                · replace h := zb_t c19 h
                  refine lv_aload_n hx hb zd_Mo_state_95 rfl (lv_at hl 0 rfl) ?_
                  refine lv_iload_n hx hb zd_Mo_state_96 rfl (lv_at hl 1 rfl) ?_
                  obtain ⟨_, g24, h⟩ := zb_o h
                  obtain ⟨⟨r25, σ26⟩, e27, h⟩ := zb_o h
                  refine za_calli (za_runV hx hb hml hown hts hK hI g24 (zm_Mo_composite e27) zj_Mo_146 ⟨rfl, rfl⟩ ⟨Nat.le_of_ble_eq_true rfl, Nat.le_of_ble_eq_true rfl⟩ rfl hl.1 rfl (Nat.le_of_ble_eq_true rfl) zd_Mo_state_97 ⟨Nat.le_of_ble_eq_true rfl, Nat.le_of_ble_eq_true rfl⟩) hI (fun H locs hI => ?_)
                  refine lv_goto hx hb (tgt := 109) zd_Mo_state_100 (by decide) ?_
                  exact B109 _ _ ls r25 σ26 hI (lv_sub hl [] rfl) h
              · replace h := zb_t c18 h
                refine lv_aload_n hx hb zd_Mo_state_81 rfl (lv_at hl 0 rfl) ?_
                obtain ⟨b29, e28, h⟩ := zb_o h
                refine za_getr hx hb hts hown hK hI zl_Mo_35 e28 zd_Mo_state_82 ?_
                refine lv_iload_n hx hb zd_Mo_state_85 rfl (lv_at hl 1 rfl) ?_
                obtain ⟨v30, e31, h⟩ := zb_o h
                refine za_iald hx hb hK hI e31 zd_Mo_state_86 ?_
                refine lv_goto hx hb (tgt := 109) zd_Mo_state_87 (by decide) ?_
                exact B109 _ _ ls v30 σ7 hI (lv_sub hl [] rfl) h
            · replace h := zb_t c17 h
              refine lv_aload_n hx hb zd_Mo_state_67 rfl (lv_at hl 0 rfl) ?_
              obtain ⟨b33, e32, h⟩ := zb_o h
              refine za_getr hx hb hts hown hK hI zl_Mo_32 e32 zd_Mo_state_68 ?_
              refine lv_iload_n hx hb zd_Mo_state_71 rfl (lv_at hl 1 rfl) ?_
              obtain ⟨v34, e35, h⟩ := zb_o h
              refine za_iald hx hb hK hI e35 zd_Mo_state_72 ?_
              refine lv_goto hx hb (tgt := 109) zd_Mo_state_73 (by decide) ?_
              exact B109 _ _ ls v34 σ7 hI (lv_sub hl [] rfl) h
          · replace h := zb_t c16 h
            refine lv_aload_n hx hb zd_Mo_state_53 rfl (lv_at hl 0 rfl) ?_
            obtain ⟨b37, e36, h⟩ := zb_o h
            refine za_getr hx hb hts hown hK hI zl_Mo_29 e36 zd_Mo_state_54 ?_
            refine lv_iload_n hx hb zd_Mo_state_57 rfl (lv_at hl 1 rfl) ?_
            obtain ⟨v38, e39, h⟩ := zb_o h
            refine za_iald hx hb hK hI e39 zd_Mo_state_58 ?_
            refine lv_goto hx hb (tgt := 109) zd_Mo_state_59 (by decide) ?_
            exact B109 _ _ ls v38 σ7 hI (lv_sub hl [] rfl) h
        · replace h := zb_t c15 h
          exact B33 _ _ ls ay0 xy1 xy2 σ7 hI (lv_sub hl [0, 1, 2] rfl) h
    · replace h := zb_t c9 h
      exact B17 _ _ ls σ7 hI (lv_sub hl [] rfl) h

def zf_Mo_statements_36  (σ : za_h) : Option (Int32 × za_h) :=
  some ((-1), σ)

def zf_Mo_statements (ay0 : Nat) (xy1 : Int32) (xy2 : Int32) (xy3 : Int32) (xy4 : Int32) (σ : za_h) : Option (Int32 × za_h) :=
  (zg_c σ ay0 10).bind fun _ =>
  (zf_Mo_good ay0 xy1 σ).bind fun (r2, σ3) =>
  if r2 = 0 then
  (zf_Mo_statements_36 σ3)
  else
  ((zf_Mo_in xy2 (nI 0) (nI 2) σ3).bind fun (r6, σ7) =>
  if r6 = 0 then
  (zf_Mo_statements_36 σ7)
  else
  ((zf_Mo_in xy3 (nI 0) (nI 2) σ7).bind fun (r10, σ11) =>
  if r10 = 0 then
  (zf_Mo_statements_36 σ11)
  else
  ((zf_Mo_in xy4 (nI 0) (nI 2) σ11).bind fun (r14, σ15) =>
  if r14 = 0 then
  (zf_Mo_statements_36 σ15)
  else
  ((zg_r σ15 ay0 10 12).bind fun b19 =>
  (za_ld σ15 b19 0 (((((nI 27) * xy1) + ((nI 9) * xy2)) + ((nI 3) * xy3)) + xy4)).bind fun v20 =>
  some (v20, σ15)))))
set_option maxRecDepth 100000 in
set_option maxHeartbeats 4000000 in
theorem zm_Mo_statements {l : Launch} {D : va_G} {ca : Nat → ClassId} {n0 : Nat} {ay0 : Nat} {xy1 : Int32} {xy2 : Int32} {xy3 : Int32} {xy4 : Int32} {σ σ' : za_h} {r : Int32} (h : zf_Mo_statements ay0 xy1 xy2 xy3 xy4 σ = some (r, σ')) : Met l zy_Mo_statements (za_wy zy_Mo_statements zc_Mo_statements 5 (some .int)) { frames := 2, cells := 0, slots := 0, locals := 43 } (za_Pc D ca n0 [.ref ay0, .int xy1, .int xy2, .int xy3, .int xy4] σ) (za_Qi D ca n0 r σ') 0 0 (za_A n0) := by
  refine za_met (by decide) (Nat.le_of_ble_eq_true rfl) ?_
  intro p e s m below meth c ls hx hb hml hr hlk hts hown hnm hK hI hl
  replace hown : s.vm.findClass zR_Mo = some m.cls := hown
  replace hl : lv_has ls 5 [(0, .ref ay0), (1, .int xy1), (2, .int xy2), (3, .int xy3), (4, .int xy4)] := hl
  have B36 : ∀ (H : Heap) (locs : List Loc) (ls : Array Slot) (σ : za_h), za_I D ca n0 s σ H locs → lv_has ls 5 [] → zf_Mo_statements_36 σ = some (r, σ') → W p l e ({ frames := 2, cells := 0, slots := 0, locals := 43 }) s m ([.ref ay0, .int xy1, .int xy2, .int xy3, .int xy4] : List Value).toArray below meth c H locs 0 0 (MQ below (za_Qi D ca n0 r σ') ([.ref ay0, .int xy1, .int xy2, .int xy3, .int xy4] : List Value).toArray s 0 0 (za_A n0)) (F0 m 36 ls []) := by
    intro H locs ls σ hI hl h
    unfold zf_Mo_statements_36 at h
    refine lv_iconst (v := -1) hx hb zd_Mo_statements_36 (by decide) ?_
    exact za_iret hx hb hr hlk hI h (Nat.le_of_ble_eq_true rfl) (Nat.le_of_ble_eq_true rfl) zd_Mo_statements_37
  unfold zf_Mo_statements at h
  refine lv_aload_n hx hb zd_Mo_statements_0 rfl (lv_at hl 0 rfl) ?_
  refine lv_iload_n hx hb zd_Mo_statements_1 rfl (lv_at hl 1 rfl) ?_
  obtain ⟨_, g1, h⟩ := zb_o h
  obtain ⟨⟨r2, σ3⟩, e4, h⟩ := zb_o h
  refine za_calli (za_runV hx hb hml hown hts hK hI g1 (zm_Mo_good e4) zj_Mo_190 ⟨rfl, rfl⟩ ⟨Nat.le_of_ble_eq_true rfl, Nat.le_of_ble_eq_true rfl⟩ rfl hl.1 rfl (Nat.le_of_ble_eq_true rfl) zd_Mo_statements_2 ⟨Nat.le_of_ble_eq_true rfl, Nat.le_of_ble_eq_true rfl⟩) hI (fun H locs hI => ?_)
  refine lv_if_eq hx hb (tgt := 36) zd_Mo_statements_5 (by decide) (fun c5 => ?_) (fun c5 => ?_)
  · replace h := zb_t c5 h
    exact B36 _ _ ls σ3 hI (lv_sub hl [] rfl) h
  · replace h := zb_f c5 h
    refine lv_iload_n hx hb zd_Mo_statements_8 rfl (lv_at hl 2 rfl) ?_
    refine lv_iconst (v := nI 0) hx hb zd_Mo_statements_9 (by decide) ?_
    refine lv_iconst (v := nI 2) hx hb zd_Mo_statements_10 (by decide) ?_
    obtain ⟨⟨r6, σ7⟩, e8, h⟩ := zb_o h
    refine za_calli (za_runS hx hb hml hown hts hK hI (zm_Mo_in e8) zj_Mo_105 ⟨rfl, rfl⟩ ⟨Nat.le_of_ble_eq_true rfl, Nat.le_of_ble_eq_true rfl⟩ rfl hl.1 rfl (Nat.le_of_ble_eq_true rfl) zd_Mo_statements_11 ⟨Nat.le_of_ble_eq_true rfl, Nat.le_of_ble_eq_true rfl⟩) hI (fun H locs hI => ?_)
    refine lv_if_eq hx hb (tgt := 36) zd_Mo_statements_14 (by decide) (fun c9 => ?_) (fun c9 => ?_)
    · replace h := zb_t c9 h
      exact B36 _ _ ls σ7 hI (lv_sub hl [] rfl) h
    · replace h := zb_f c9 h
      refine lv_iload_n hx hb zd_Mo_statements_17 rfl (lv_at hl 3 rfl) ?_
      refine lv_iconst (v := nI 0) hx hb zd_Mo_statements_18 (by decide) ?_
      refine lv_iconst (v := nI 2) hx hb zd_Mo_statements_19 (by decide) ?_
      obtain ⟨⟨r10, σ11⟩, e12, h⟩ := zb_o h
      refine za_calli (za_runS hx hb hml hown hts hK hI (zm_Mo_in e12) zj_Mo_105 ⟨rfl, rfl⟩ ⟨Nat.le_of_ble_eq_true rfl, Nat.le_of_ble_eq_true rfl⟩ rfl hl.1 rfl (Nat.le_of_ble_eq_true rfl) zd_Mo_statements_20 ⟨Nat.le_of_ble_eq_true rfl, Nat.le_of_ble_eq_true rfl⟩) hI (fun H locs hI => ?_)
      refine lv_if_eq hx hb (tgt := 36) zd_Mo_statements_23 (by decide) (fun c13 => ?_) (fun c13 => ?_)
      · replace h := zb_t c13 h
        exact B36 _ _ ls σ11 hI (lv_sub hl [] rfl) h
      · replace h := zb_f c13 h
        refine lv_iload hx hb zd_Mo_statements_26 (lv_at hl 4 rfl) ?_
        refine lv_iconst (v := nI 0) hx hb zd_Mo_statements_28 (by decide) ?_
        refine lv_iconst (v := nI 2) hx hb zd_Mo_statements_29 (by decide) ?_
        obtain ⟨⟨r14, σ15⟩, e16, h⟩ := zb_o h
        refine za_calli (za_runS hx hb hml hown hts hK hI (zm_Mo_in e16) zj_Mo_105 ⟨rfl, rfl⟩ ⟨Nat.le_of_ble_eq_true rfl, Nat.le_of_ble_eq_true rfl⟩ rfl hl.1 rfl (Nat.le_of_ble_eq_true rfl) zd_Mo_statements_30 ⟨Nat.le_of_ble_eq_true rfl, Nat.le_of_ble_eq_true rfl⟩) hI (fun H locs hI => ?_)
        refine lv_if_ne hx hb (tgt := 38) zd_Mo_statements_33 (by decide) (fun c17 => ?_) (fun c17 => ?_)
        · replace h := zb_f c17 h
          refine lv_aload_n hx hb zd_Mo_statements_38 rfl (lv_at hl 0 rfl) ?_
          obtain ⟨b19, e18, h⟩ := zb_o h
          refine za_getr hx hb hts hown hK hI zl_Mo_41 e18 zd_Mo_statements_39 ?_
          refine lv_bipush (v := nI 27) hx hb zd_Mo_statements_42 (by decide) ?_
          refine lv_iload_n hx hb zd_Mo_statements_44 rfl (lv_at hl 1 rfl) ?_
          refine lv_imul hx hb zd_Mo_statements_45 ?_
          refine lv_bipush (v := nI 9) hx hb zd_Mo_statements_46 (by decide) ?_
          refine lv_iload_n hx hb zd_Mo_statements_48 rfl (lv_at hl 2 rfl) ?_
          refine lv_imul hx hb zd_Mo_statements_49 ?_
          refine lv_iadd hx hb zd_Mo_statements_50 ?_
          refine lv_iconst (v := nI 3) hx hb zd_Mo_statements_51 (by decide) ?_
          refine lv_iload_n hx hb zd_Mo_statements_52 rfl (lv_at hl 3 rfl) ?_
          refine lv_imul hx hb zd_Mo_statements_53 ?_
          refine lv_iadd hx hb zd_Mo_statements_54 ?_
          refine lv_iload hx hb zd_Mo_statements_55 (lv_at hl 4 rfl) ?_
          refine lv_iadd hx hb zd_Mo_statements_57 ?_
          obtain ⟨v20, e21, h⟩ := zb_o h
          refine za_iald hx hb hK hI e21 zd_Mo_statements_58 ?_
          exact za_iret hx hb hr hlk hI h (Nat.le_of_ble_eq_true rfl) (Nat.le_of_ble_eq_true rfl) zd_Mo_statements_59
        · replace h := zb_t c17 h
          exact B36 _ _ ls σ15 hI (lv_sub hl [] rfl) h

def zf_Mo_value_31 (xs0 : Int32) (σ : za_h) : Option (Int32 × za_h) :=
  some (xs0, σ)

def zf_Mo_value_30  (σ : za_h) : Option (Int32 × za_h) :=
  zf_Mo_value_31 (-1) σ

def zf_Mo_value (ay0 : Nat) (xy1 : Int32) (xy2 : Int32) (σ : za_h) : Option (Int32 × za_h) :=
  (zg_c σ ay0 10).bind fun _ =>
  (zf_Mo_good ay0 xy1 σ).bind fun (r2, σ3) =>
  if r2 = 0 then
  (zf_Mo_value_30 σ3)
  else
  ((zf_Mo_in xy2 (nI 0) (nI 2) σ3).bind fun (r6, σ7) =>
  if r6 = 0 then
  (zf_Mo_value_30 σ7)
  else
  ((zg_r σ7 ay0 10 14).bind fun b11 =>
  (za_ld σ7 b11 0 (((nI 3) * xy1) + xy2)).bind fun v12 =>
  zf_Mo_value_31 v12 σ7))
set_option maxRecDepth 100000 in
set_option maxHeartbeats 4000000 in
theorem zm_Mo_value {l : Launch} {D : va_G} {ca : Nat → ClassId} {n0 : Nat} {ay0 : Nat} {xy1 : Int32} {xy2 : Int32} {σ σ' : za_h} {r : Int32} (h : zf_Mo_value ay0 xy1 xy2 σ = some (r, σ')) : Met l zy_Mo_value (za_wy zy_Mo_value zc_Mo_value 3 (some .int)) { frames := 2, cells := 0, slots := 0, locals := 43 } (za_Pc D ca n0 [.ref ay0, .int xy1, .int xy2] σ) (za_Qi D ca n0 r σ') 0 0 (za_A n0) := by
  refine za_met (by decide) (Nat.le_of_ble_eq_true rfl) ?_
  intro p e s m below meth c ls hx hb hml hr hlk hts hown hnm hK hI hl
  replace hown : s.vm.findClass zR_Mo = some m.cls := hown
  replace hl : lv_has ls 3 [(0, .ref ay0), (1, .int xy1), (2, .int xy2)] := hl
  have B31 : ∀ (H : Heap) (locs : List Loc) (ls : Array Slot) (xs0 : Int32) (σ : za_h), za_I D ca n0 s σ H locs → lv_has ls 3 [] → zf_Mo_value_31 xs0 σ = some (r, σ') → W p l e ({ frames := 2, cells := 0, slots := 0, locals := 43 }) s m ([.ref ay0, .int xy1, .int xy2] : List Value).toArray below meth c H locs 0 0 (MQ below (za_Qi D ca n0 r σ') ([.ref ay0, .int xy1, .int xy2] : List Value).toArray s 0 0 (za_A n0)) (F0 m 31 ls [.int xs0]) := by
    intro H locs ls xs0 σ hI hl h
    unfold zf_Mo_value_31 at h
    exact za_iret hx hb hr hlk hI h (Nat.le_of_ble_eq_true rfl) (Nat.le_of_ble_eq_true rfl) zd_Mo_value_31
  have B30 : ∀ (H : Heap) (locs : List Loc) (ls : Array Slot) (σ : za_h), za_I D ca n0 s σ H locs → lv_has ls 3 [] → zf_Mo_value_30 σ = some (r, σ') → W p l e ({ frames := 2, cells := 0, slots := 0, locals := 43 }) s m ([.ref ay0, .int xy1, .int xy2] : List Value).toArray below meth c H locs 0 0 (MQ below (za_Qi D ca n0 r σ') ([.ref ay0, .int xy1, .int xy2] : List Value).toArray s 0 0 (za_A n0)) (F0 m 30 ls []) := by
    intro H locs ls σ hI hl h
    unfold zf_Mo_value_30 at h
    refine lv_iconst (v := -1) hx hb zd_Mo_value_30 (by decide) ?_
    exact B31 _ _ ls (-1) σ hI (lv_sub hl [] rfl) h
  unfold zf_Mo_value at h
  refine lv_aload_n hx hb zd_Mo_value_0 rfl (lv_at hl 0 rfl) ?_
  refine lv_iload_n hx hb zd_Mo_value_1 rfl (lv_at hl 1 rfl) ?_
  obtain ⟨_, g1, h⟩ := zb_o h
  obtain ⟨⟨r2, σ3⟩, e4, h⟩ := zb_o h
  refine za_calli (za_runV hx hb hml hown hts hK hI g1 (zm_Mo_good e4) zj_Mo_190 ⟨rfl, rfl⟩ ⟨Nat.le_of_ble_eq_true rfl, Nat.le_of_ble_eq_true rfl⟩ rfl hl.1 rfl (Nat.le_of_ble_eq_true rfl) zd_Mo_value_2 ⟨Nat.le_of_ble_eq_true rfl, Nat.le_of_ble_eq_true rfl⟩) hI (fun H locs hI => ?_)
  refine lv_if_eq hx hb (tgt := 30) zd_Mo_value_5 (by decide) (fun c5 => ?_) (fun c5 => ?_)
  · replace h := zb_t c5 h
    exact B30 _ _ ls σ3 hI (lv_sub hl [] rfl) h
  · replace h := zb_f c5 h
    refine lv_iload_n hx hb zd_Mo_value_8 rfl (lv_at hl 2 rfl) ?_
    refine lv_iconst (v := nI 0) hx hb zd_Mo_value_9 (by decide) ?_
    refine lv_iconst (v := nI 2) hx hb zd_Mo_value_10 (by decide) ?_
    obtain ⟨⟨r6, σ7⟩, e8, h⟩ := zb_o h
    refine za_calli (za_runS hx hb hml hown hts hK hI (zm_Mo_in e8) zj_Mo_105 ⟨rfl, rfl⟩ ⟨Nat.le_of_ble_eq_true rfl, Nat.le_of_ble_eq_true rfl⟩ rfl hl.1 rfl (Nat.le_of_ble_eq_true rfl) zd_Mo_value_11 ⟨Nat.le_of_ble_eq_true rfl, Nat.le_of_ble_eq_true rfl⟩) hI (fun H locs hI => ?_)
    refine lv_if_eq hx hb (tgt := 30) zd_Mo_value_14 (by decide) (fun c9 => ?_) (fun c9 => ?_)
    · replace h := zb_t c9 h
      exact B30 _ _ ls σ7 hI (lv_sub hl [] rfl) h
    · replace h := zb_f c9 h
      refine lv_aload_n hx hb zd_Mo_value_17 rfl (lv_at hl 0 rfl) ?_
      obtain ⟨b11, e10, h⟩ := zb_o h
      refine za_getr hx hb hts hown hK hI zl_Mo_47 e10 zd_Mo_value_18 ?_
      refine lv_iconst (v := nI 3) hx hb zd_Mo_value_21 (by decide) ?_
      refine lv_iload_n hx hb zd_Mo_value_22 rfl (lv_at hl 1 rfl) ?_
      refine lv_imul hx hb zd_Mo_value_23 ?_
      refine lv_iload_n hx hb zd_Mo_value_24 rfl (lv_at hl 2 rfl) ?_
      refine lv_iadd hx hb zd_Mo_value_25 ?_
      obtain ⟨v12, e13, h⟩ := zb_o h
      refine za_iald hx hb hK hI e13 zd_Mo_value_26 ?_
      refine lv_goto hx hb (tgt := 31) zd_Mo_value_27 (by decide) ?_
      exact B31 _ _ ls v12 σ7 hI (lv_sub hl [] rfl) h

def zf_Mo_header_18 (xs0 : Int32) (σ : za_h) : Option (Int32 × za_h) :=
  some (xs0, σ)

def zf_Mo_header (ay0 : Nat) (xy1 : Int32) (σ : za_h) : Option (Int32 × za_h) :=
  (zg_c σ ay0 10).bind fun _ =>
  (zf_Mo_good ay0 xy1 σ).bind fun (r2, σ3) =>
  if r2 = 0 then
  (zf_Mo_header_18 (nI 0) σ3)
  else
  ((zg_r σ3 ay0 10 15).bind fun b7 =>
  (za_ld σ3 b7 0 xy1).bind fun v8 =>
  zf_Mo_header_18 v8 σ3)
set_option maxRecDepth 100000 in
set_option maxHeartbeats 4000000 in
theorem zm_Mo_header {l : Launch} {D : va_G} {ca : Nat → ClassId} {n0 : Nat} {ay0 : Nat} {xy1 : Int32} {σ σ' : za_h} {r : Int32} (h : zf_Mo_header ay0 xy1 σ = some (r, σ')) : Met l zy_Mo_header (za_wy zy_Mo_header zc_Mo_header 2 (some .int)) { frames := 2, cells := 0, slots := 0, locals := 43 } (za_Pc D ca n0 [.ref ay0, .int xy1] σ) (za_Qi D ca n0 r σ') 0 0 (za_A n0) := by
  refine za_met (by decide) (Nat.le_of_ble_eq_true rfl) ?_
  intro p e s m below meth c ls hx hb hml hr hlk hts hown hnm hK hI hl
  replace hown : s.vm.findClass zR_Mo = some m.cls := hown
  replace hl : lv_has ls 2 [(0, .ref ay0), (1, .int xy1)] := hl
  have B18 : ∀ (H : Heap) (locs : List Loc) (ls : Array Slot) (xs0 : Int32) (σ : za_h), za_I D ca n0 s σ H locs → lv_has ls 2 [] → zf_Mo_header_18 xs0 σ = some (r, σ') → W p l e ({ frames := 2, cells := 0, slots := 0, locals := 43 }) s m ([.ref ay0, .int xy1] : List Value).toArray below meth c H locs 0 0 (MQ below (za_Qi D ca n0 r σ') ([.ref ay0, .int xy1] : List Value).toArray s 0 0 (za_A n0)) (F0 m 18 ls [.int xs0]) := by
    intro H locs ls xs0 σ hI hl h
    unfold zf_Mo_header_18 at h
    exact za_iret hx hb hr hlk hI h (Nat.le_of_ble_eq_true rfl) (Nat.le_of_ble_eq_true rfl) zd_Mo_header_18
  unfold zf_Mo_header at h
  refine lv_aload_n hx hb zd_Mo_header_0 rfl (lv_at hl 0 rfl) ?_
  refine lv_iload_n hx hb zd_Mo_header_1 rfl (lv_at hl 1 rfl) ?_
  obtain ⟨_, g1, h⟩ := zb_o h
  obtain ⟨⟨r2, σ3⟩, e4, h⟩ := zb_o h
  refine za_calli (za_runV hx hb hml hown hts hK hI g1 (zm_Mo_good e4) zj_Mo_190 ⟨rfl, rfl⟩ ⟨Nat.le_of_ble_eq_true rfl, Nat.le_of_ble_eq_true rfl⟩ rfl hl.1 rfl (Nat.le_of_ble_eq_true rfl) zd_Mo_header_2 ⟨Nat.le_of_ble_eq_true rfl, Nat.le_of_ble_eq_true rfl⟩) hI (fun H locs hI => ?_)
  refine lv_if_eq hx hb (tgt := 17) zd_Mo_header_5 (by decide) (fun c5 => ?_) (fun c5 => ?_)
  · replace h := zb_t c5 h
    refine lv_iconst (v := nI 0) hx hb zd_Mo_header_17 (by decide) ?_
    exact B18 _ _ ls (nI 0) σ3 hI (lv_sub hl [] rfl) h
  · replace h := zb_f c5 h
    refine lv_aload_n hx hb zd_Mo_header_8 rfl (lv_at hl 0 rfl) ?_
    obtain ⟨b7, e6, h⟩ := zb_o h
    refine za_getr hx hb hts hown hK hI zl_Mo_50 e6 zd_Mo_header_9 ?_
    refine lv_iload_n hx hb zd_Mo_header_12 rfl (lv_at hl 1 rfl) ?_
    obtain ⟨v8, e9, h⟩ := zb_o h
    refine za_iald hx hb hK hI e9 zd_Mo_header_13 ?_
    refine lv_goto hx hb (tgt := 18) zd_Mo_header_14 (by decide) ?_
    exact B18 _ _ ls v8 σ3 hI (lv_sub hl [] rfl) h

def zf_Mo_balance_45 (xs0 : Int32) (σ : za_h) : Option (Int32 × za_h) :=
  some (xs0, σ)

def zf_Mo_balance_44  (σ : za_h) : Option (Int32 × za_h) :=
  zf_Mo_balance_45 (-1) σ

def zf_Mo_balance (ay0 : Nat) (xy1 : Int32) (xy2 : Int32) (xy3 : Int32) (σ : za_h) : Option (Int32 × za_h) :=
  (zg_c σ ay0 10).bind fun _ =>
  (zf_Mo_good ay0 xy1 σ).bind fun (r2, σ3) =>
  if r2 = 0 then
  (zf_Mo_balance_44 σ3)
  else
  ((zf_Mo_in xy2 (nI 0) (nI 3) σ3).bind fun (r6, σ7) =>
  if r6 = 0 then
  (zf_Mo_balance_44 σ7)
  else
  ((zf_Mo_in xy3 (nI 0) (nI 1) σ7).bind fun (r10, σ11) =>
  if r10 = 0 then
  (zf_Mo_balance_44 σ11)
  else
  ((zg_r σ11 ay0 10 26).bind fun b15 =>
  (za_ld σ11 b15 0 ((((nI 8) * xy1) + ((nI 2) * xy2)) + xy3)).bind fun v16 =>
  zf_Mo_balance_45 v16 σ11)))
set_option maxRecDepth 100000 in
set_option maxHeartbeats 4000000 in
theorem zm_Mo_balance {l : Launch} {D : va_G} {ca : Nat → ClassId} {n0 : Nat} {ay0 : Nat} {xy1 : Int32} {xy2 : Int32} {xy3 : Int32} {σ σ' : za_h} {r : Int32} (h : zf_Mo_balance ay0 xy1 xy2 xy3 σ = some (r, σ')) : Met l zy_Mo_balance (za_wy zy_Mo_balance zc_Mo_balance 4 (some .int)) { frames := 2, cells := 0, slots := 0, locals := 43 } (za_Pc D ca n0 [.ref ay0, .int xy1, .int xy2, .int xy3] σ) (za_Qi D ca n0 r σ') 0 0 (za_A n0) := by
  refine za_met (by decide) (Nat.le_of_ble_eq_true rfl) ?_
  intro p e s m below meth c ls hx hb hml hr hlk hts hown hnm hK hI hl
  replace hown : s.vm.findClass zR_Mo = some m.cls := hown
  replace hl : lv_has ls 4 [(0, .ref ay0), (1, .int xy1), (2, .int xy2), (3, .int xy3)] := hl
  have B45 : ∀ (H : Heap) (locs : List Loc) (ls : Array Slot) (xs0 : Int32) (σ : za_h), za_I D ca n0 s σ H locs → lv_has ls 4 [] → zf_Mo_balance_45 xs0 σ = some (r, σ') → W p l e ({ frames := 2, cells := 0, slots := 0, locals := 43 }) s m ([.ref ay0, .int xy1, .int xy2, .int xy3] : List Value).toArray below meth c H locs 0 0 (MQ below (za_Qi D ca n0 r σ') ([.ref ay0, .int xy1, .int xy2, .int xy3] : List Value).toArray s 0 0 (za_A n0)) (F0 m 45 ls [.int xs0]) := by
    intro H locs ls xs0 σ hI hl h
    unfold zf_Mo_balance_45 at h
    exact za_iret hx hb hr hlk hI h (Nat.le_of_ble_eq_true rfl) (Nat.le_of_ble_eq_true rfl) zd_Mo_balance_45
  have B44 : ∀ (H : Heap) (locs : List Loc) (ls : Array Slot) (σ : za_h), za_I D ca n0 s σ H locs → lv_has ls 4 [] → zf_Mo_balance_44 σ = some (r, σ') → W p l e ({ frames := 2, cells := 0, slots := 0, locals := 43 }) s m ([.ref ay0, .int xy1, .int xy2, .int xy3] : List Value).toArray below meth c H locs 0 0 (MQ below (za_Qi D ca n0 r σ') ([.ref ay0, .int xy1, .int xy2, .int xy3] : List Value).toArray s 0 0 (za_A n0)) (F0 m 44 ls []) := by
    intro H locs ls σ hI hl h
    unfold zf_Mo_balance_44 at h
    refine lv_iconst (v := -1) hx hb zd_Mo_balance_44 (by decide) ?_
    exact B45 _ _ ls (-1) σ hI (lv_sub hl [] rfl) h
  unfold zf_Mo_balance at h
  refine lv_aload_n hx hb zd_Mo_balance_0 rfl (lv_at hl 0 rfl) ?_
  refine lv_iload_n hx hb zd_Mo_balance_1 rfl (lv_at hl 1 rfl) ?_
  obtain ⟨_, g1, h⟩ := zb_o h
  obtain ⟨⟨r2, σ3⟩, e4, h⟩ := zb_o h
  refine za_calli (za_runV hx hb hml hown hts hK hI g1 (zm_Mo_good e4) zj_Mo_190 ⟨rfl, rfl⟩ ⟨Nat.le_of_ble_eq_true rfl, Nat.le_of_ble_eq_true rfl⟩ rfl hl.1 rfl (Nat.le_of_ble_eq_true rfl) zd_Mo_balance_2 ⟨Nat.le_of_ble_eq_true rfl, Nat.le_of_ble_eq_true rfl⟩) hI (fun H locs hI => ?_)
  refine lv_if_eq hx hb (tgt := 44) zd_Mo_balance_5 (by decide) (fun c5 => ?_) (fun c5 => ?_)
  · replace h := zb_t c5 h
    exact B44 _ _ ls σ3 hI (lv_sub hl [] rfl) h
  · replace h := zb_f c5 h
    refine lv_iload_n hx hb zd_Mo_balance_8 rfl (lv_at hl 2 rfl) ?_
    refine lv_iconst (v := nI 0) hx hb zd_Mo_balance_9 (by decide) ?_
    refine lv_iconst (v := nI 3) hx hb zd_Mo_balance_10 (by decide) ?_
    obtain ⟨⟨r6, σ7⟩, e8, h⟩ := zb_o h
    refine za_calli (za_runS hx hb hml hown hts hK hI (zm_Mo_in e8) zj_Mo_105 ⟨rfl, rfl⟩ ⟨Nat.le_of_ble_eq_true rfl, Nat.le_of_ble_eq_true rfl⟩ rfl hl.1 rfl (Nat.le_of_ble_eq_true rfl) zd_Mo_balance_11 ⟨Nat.le_of_ble_eq_true rfl, Nat.le_of_ble_eq_true rfl⟩) hI (fun H locs hI => ?_)
    refine lv_if_eq hx hb (tgt := 44) zd_Mo_balance_14 (by decide) (fun c9 => ?_) (fun c9 => ?_)
    · replace h := zb_t c9 h
      exact B44 _ _ ls σ7 hI (lv_sub hl [] rfl) h
    · replace h := zb_f c9 h
      refine lv_iload_n hx hb zd_Mo_balance_17 rfl (lv_at hl 3 rfl) ?_
      refine lv_iconst (v := nI 0) hx hb zd_Mo_balance_18 (by decide) ?_
      refine lv_iconst (v := nI 1) hx hb zd_Mo_balance_19 (by decide) ?_
      obtain ⟨⟨r10, σ11⟩, e12, h⟩ := zb_o h
      refine za_calli (za_runS hx hb hml hown hts hK hI (zm_Mo_in e12) zj_Mo_105 ⟨rfl, rfl⟩ ⟨Nat.le_of_ble_eq_true rfl, Nat.le_of_ble_eq_true rfl⟩ rfl hl.1 rfl (Nat.le_of_ble_eq_true rfl) zd_Mo_balance_20 ⟨Nat.le_of_ble_eq_true rfl, Nat.le_of_ble_eq_true rfl⟩) hI (fun H locs hI => ?_)
      refine lv_if_eq hx hb (tgt := 44) zd_Mo_balance_23 (by decide) (fun c13 => ?_) (fun c13 => ?_)
      · replace h := zb_t c13 h
        exact B44 _ _ ls σ11 hI (lv_sub hl [] rfl) h
      · replace h := zb_f c13 h
        refine lv_aload_n hx hb zd_Mo_balance_26 rfl (lv_at hl 0 rfl) ?_
        obtain ⟨b15, e14, h⟩ := zb_o h
        refine za_getr hx hb hts hown hK hI zl_Mo_80 e14 zd_Mo_balance_27 ?_
        refine lv_bipush (v := nI 8) hx hb zd_Mo_balance_30 (by decide) ?_
        refine lv_iload_n hx hb zd_Mo_balance_32 rfl (lv_at hl 1 rfl) ?_
        refine lv_imul hx hb zd_Mo_balance_33 ?_
        refine lv_iconst (v := nI 2) hx hb zd_Mo_balance_34 (by decide) ?_
        refine lv_iload_n hx hb zd_Mo_balance_35 rfl (lv_at hl 2 rfl) ?_
        refine lv_imul hx hb zd_Mo_balance_36 ?_
        refine lv_iadd hx hb zd_Mo_balance_37 ?_
        refine lv_iload_n hx hb zd_Mo_balance_38 rfl (lv_at hl 3 rfl) ?_
        refine lv_iadd hx hb zd_Mo_balance_39 ?_
        obtain ⟨v16, e17, h⟩ := zb_o h
        refine za_iald hx hb hK hI e17 zd_Mo_balance_40 ?_
        refine lv_goto hx hb (tgt := 45) zd_Mo_balance_41 (by decide) ?_
        exact B45 _ _ ls v16 σ11 hI (lv_sub hl [] rfl) h

def zf_Mo_offer_24  (σ : za_h) : Option (Int32 × za_h) :=
  some ((-1), σ)

def zf_Mo_offer (ay0 : Nat) (xy1 : Int32) (xy2 : Int32) (σ : za_h) : Option (Int32 × za_h) :=
  (zg_c σ ay0 10).bind fun _ =>
  (zf_Mo_good ay0 xy1 σ).bind fun (r2, σ3) =>
  if r2 = 0 then
  (zf_Mo_offer_24 σ3)
  else
  ((zg_r σ3 ay0 10 27).bind fun b7 =>
  (za_ld σ3 b7 0 xy1).bind fun v8 =>
  (zf_Mo_in xy2 (nI 0) (v8 - (nI 1)) σ3).bind fun (r10, σ11) =>
  if r10 = 0 then
  (zf_Mo_offer_24 σ11)
  else
  ((zg_r σ11 ay0 10 28).bind fun b15 =>
  (za_ld σ11 b15 0 (((nI 9) * xy1) + xy2)).bind fun v16 =>
  (zg_r σ11 ay0 10 29).bind fun b19 =>
  (za_ld σ11 b19 0 (((nI 9) * xy1) + xy2)).bind fun v20 =>
  (zg_r σ11 ay0 10 30).bind fun b23 =>
  (za_ld σ11 b23 0 (((nI 9) * xy1) + xy2)).bind fun v24 =>
  (zg_r σ11 ay0 10 31).bind fun b27 =>
  (za_ld σ11 b27 0 (((nI 9) * xy1) + xy2)).bind fun v28 =>
  some ((((v16 + ((nI 4) * v20)) + ((nI 16) * v24)) + ((nI 256) * v28)), σ11)))
set_option maxRecDepth 100000 in
set_option maxHeartbeats 4000000 in
theorem zm_Mo_offer {l : Launch} {D : va_G} {ca : Nat → ClassId} {n0 : Nat} {ay0 : Nat} {xy1 : Int32} {xy2 : Int32} {σ σ' : za_h} {r : Int32} (h : zf_Mo_offer ay0 xy1 xy2 σ = some (r, σ')) : Met l zy_Mo_offer (za_wy zy_Mo_offer zc_Mo_offer 4 (some .int)) { frames := 2, cells := 0, slots := 0, locals := 43 } (za_Pc D ca n0 [.ref ay0, .int xy1, .int xy2] σ) (za_Qi D ca n0 r σ') 0 0 (za_A n0) := by
  refine za_met (by decide) (Nat.le_of_ble_eq_true rfl) ?_
  intro p e s m below meth c ls hx hb hml hr hlk hts hown hnm hK hI hl
  replace hown : s.vm.findClass zR_Mo = some m.cls := hown
  replace hl : lv_has ls 4 [(0, .ref ay0), (1, .int xy1), (2, .int xy2)] := hl
  have B24 : ∀ (H : Heap) (locs : List Loc) (ls : Array Slot) (σ : za_h), za_I D ca n0 s σ H locs → lv_has ls 4 [] → zf_Mo_offer_24 σ = some (r, σ') → W p l e ({ frames := 2, cells := 0, slots := 0, locals := 43 }) s m ([.ref ay0, .int xy1, .int xy2] : List Value).toArray below meth c H locs 0 0 (MQ below (za_Qi D ca n0 r σ') ([.ref ay0, .int xy1, .int xy2] : List Value).toArray s 0 0 (za_A n0)) (F0 m 24 ls []) := by
    intro H locs ls σ hI hl h
    unfold zf_Mo_offer_24 at h
    refine lv_iconst (v := -1) hx hb zd_Mo_offer_24 (by decide) ?_
    exact za_iret hx hb hr hlk hI h (Nat.le_of_ble_eq_true rfl) (Nat.le_of_ble_eq_true rfl) zd_Mo_offer_25
  unfold zf_Mo_offer at h
  refine lv_aload_n hx hb zd_Mo_offer_0 rfl (lv_at hl 0 rfl) ?_
  refine lv_iload_n hx hb zd_Mo_offer_1 rfl (lv_at hl 1 rfl) ?_
  obtain ⟨_, g1, h⟩ := zb_o h
  obtain ⟨⟨r2, σ3⟩, e4, h⟩ := zb_o h
  refine za_calli (za_runV hx hb hml hown hts hK hI g1 (zm_Mo_good e4) zj_Mo_190 ⟨rfl, rfl⟩ ⟨Nat.le_of_ble_eq_true rfl, Nat.le_of_ble_eq_true rfl⟩ rfl hl.1 rfl (Nat.le_of_ble_eq_true rfl) zd_Mo_offer_2 ⟨Nat.le_of_ble_eq_true rfl, Nat.le_of_ble_eq_true rfl⟩) hI (fun H locs hI => ?_)
  refine lv_if_eq hx hb (tgt := 24) zd_Mo_offer_5 (by decide) (fun c5 => ?_) (fun c5 => ?_)
  · replace h := zb_t c5 h
    exact B24 _ _ ls σ3 hI (lv_sub hl [] rfl) h
  · replace h := zb_f c5 h
    refine lv_iload_n hx hb zd_Mo_offer_8 rfl (lv_at hl 2 rfl) ?_
    refine lv_iconst (v := nI 0) hx hb zd_Mo_offer_9 (by decide) ?_
    refine lv_aload_n hx hb zd_Mo_offer_10 rfl (lv_at hl 0 rfl) ?_
    obtain ⟨b7, e6, h⟩ := zb_o h
    refine za_getr hx hb hts hown hK hI zl_Mo_83 e6 zd_Mo_offer_11 ?_
    refine lv_iload_n hx hb zd_Mo_offer_14 rfl (lv_at hl 1 rfl) ?_
    obtain ⟨v8, e9, h⟩ := zb_o h
    refine za_iald hx hb hK hI e9 zd_Mo_offer_15 ?_
    refine lv_iconst (v := nI 1) hx hb zd_Mo_offer_16 (by decide) ?_
    refine lv_isub hx hb zd_Mo_offer_17 ?_
    obtain ⟨⟨r10, σ11⟩, e12, h⟩ := zb_o h
    refine za_calli (za_runS hx hb hml hown hts hK hI (zm_Mo_in e12) zj_Mo_105 ⟨rfl, rfl⟩ ⟨Nat.le_of_ble_eq_true rfl, Nat.le_of_ble_eq_true rfl⟩ rfl hl.1 rfl (Nat.le_of_ble_eq_true rfl) zd_Mo_offer_18 ⟨Nat.le_of_ble_eq_true rfl, Nat.le_of_ble_eq_true rfl⟩) hI (fun H locs hI => ?_)
    refine lv_if_ne hx hb (tgt := 26) zd_Mo_offer_21 (by decide) (fun c13 => ?_) (fun c13 => ?_)
    · replace h := zb_f c13 h
      refine lv_bipush (v := nI 9) hx hb zd_Mo_offer_26 (by decide) ?_
      refine lv_iload_n hx hb zd_Mo_offer_28 rfl (lv_at hl 1 rfl) ?_
      refine lv_imul hx hb zd_Mo_offer_29 ?_
      refine lv_iload_n hx hb zd_Mo_offer_30 rfl (lv_at hl 2 rfl) ?_
      refine lv_iadd hx hb zd_Mo_offer_31 ?_
      refine lv_istore_n (lv' := [(3, .int (((nI 9) * xy1) + xy2)), (0, .ref ay0), (1, .int xy1), (2, .int xy2)]) hx hb zd_Mo_offer_32 rfl hl (Nat.le_of_ble_eq_true rfl) rfl (fun ls hl => ?_)
      refine lv_aload_n hx hb zd_Mo_offer_33 rfl (lv_at hl 1 rfl) ?_
      obtain ⟨b15, e14, h⟩ := zb_o h
      refine za_getr hx hb hts hown hK hI zl_Mo_86 e14 zd_Mo_offer_34 ?_
      refine lv_iload_n hx hb zd_Mo_offer_37 rfl (lv_at hl 0 rfl) ?_
      obtain ⟨v16, e17, h⟩ := zb_o h
      refine za_iald hx hb hK hI e17 zd_Mo_offer_38 ?_
      refine lv_iconst (v := nI 4) hx hb zd_Mo_offer_39 (by decide) ?_
      refine lv_aload_n hx hb zd_Mo_offer_40 rfl (lv_at hl 1 rfl) ?_
      obtain ⟨b19, e18, h⟩ := zb_o h
      refine za_getr hx hb hts hown hK hI zl_Mo_89 e18 zd_Mo_offer_41 ?_
      refine lv_iload_n hx hb zd_Mo_offer_44 rfl (lv_at hl 0 rfl) ?_
      obtain ⟨v20, e21, h⟩ := zb_o h
      refine za_iald hx hb hK hI e21 zd_Mo_offer_45 ?_
      refine lv_imul hx hb zd_Mo_offer_46 ?_
      refine lv_iadd hx hb zd_Mo_offer_47 ?_
      refine lv_bipush (v := nI 16) hx hb zd_Mo_offer_48 (by decide) ?_
      refine lv_aload_n hx hb zd_Mo_offer_50 rfl (lv_at hl 1 rfl) ?_
      obtain ⟨b23, e22, h⟩ := zb_o h
      refine za_getr hx hb hts hown hK hI zl_Mo_92 e22 zd_Mo_offer_51 ?_
      refine lv_iload_n hx hb zd_Mo_offer_54 rfl (lv_at hl 0 rfl) ?_
      obtain ⟨v24, e25, h⟩ := zb_o h
      refine za_iald hx hb hK hI e25 zd_Mo_offer_55 ?_
      refine lv_imul hx hb zd_Mo_offer_56 ?_
      refine lv_iadd hx hb zd_Mo_offer_57 ?_
      refine lv_sipush (v := nI 256) hx hb zd_Mo_offer_58 (by decide) ?_
      refine lv_aload_n hx hb zd_Mo_offer_61 rfl (lv_at hl 1 rfl) ?_
      obtain ⟨b27, e26, h⟩ := zb_o h
      refine za_getr hx hb hts hown hK hI zl_Mo_95 e26 zd_Mo_offer_62 ?_
      refine lv_iload_n hx hb zd_Mo_offer_65 rfl (lv_at hl 0 rfl) ?_
      obtain ⟨v28, e29, h⟩ := zb_o h
      refine za_iald hx hb hK hI e29 zd_Mo_offer_66 ?_
      refine lv_imul hx hb zd_Mo_offer_67 ?_
      refine lv_iadd hx hb zd_Mo_offer_68 ?_
      exact za_iret hx hb hr hlk hI h (Nat.le_of_ble_eq_true rfl) (Nat.le_of_ble_eq_true rfl) zd_Mo_offer_69
    · replace h := zb_t c13 h
      exact B24 _ _ ls σ11 hI (lv_sub hl [] rfl) h
