def zf_Law_cell_13 (sL : Nat) (sx : Nat → Int32) (xs0 : Int32) (σ : za_h) : Option (Int32 × za_h) :=
  some (xs0, σ)

def zf_Law_cell (sL : Nat) (sx : Nat → Int32) (xy1 : Int32) (σ : za_h) : Option (Int32 × za_h) :=
  if (nI sL) ≤ xy1 then
  (zf_Law_cell_13 sL sx (nI 0) σ)
  else
  ((zs_ld sL sx xy1).bind fun v2 =>
  zf_Law_cell_13 sL sx v2 σ)
set_option maxRecDepth 100000 in
set_option maxHeartbeats 4000000 in
theorem zm_Law_cell {l : Launch} {D : va_G} {ca : Nat → ClassId} {n0 : Nat} {sb sL : Nat} {sx : Nat → Int32} {xy1 : Int32} {σ σ' : za_h} {r : Int32} (h : zf_Law_cell sL sx xy1 σ = some (r, σ')) : Met l zy_Law_cell (za_wy zy_Law_cell zc_Law_cell 2 (some .int)) { frames := 0, cells := 0, slots := 0, locals := 0 } (za_PX D ca n0 [.ref sb, .int xy1] σ sb sL sx) (za_Qi D ca n0 r σ') 0 0 (za_A n0) := by
  refine za_metX (by decide) (Nat.le_of_ble_eq_true rfl) ?_
  intro p e s m below meth c ls hx hb hml hr hlk hts hown hnm hK hX hI hl
  replace hown : s.vm.findClass zR_Law = some m.cls := hown
  replace hl : lv_has ls 2 [(0, .ref sb), (1, .int xy1)] := hl
  have B13 : ∀ (H : Heap) (locs : List Loc) (ls : Array Slot) (xs0 : Int32) (σ : za_h), za_I D ca n0 s σ H locs → lv_has ls 2 [] → zf_Law_cell_13 sL sx xs0 σ = some (r, σ') → W p l e ({ frames := 0, cells := 0, slots := 0, locals := 0 }) s m ([.ref sb, .int xy1] : List Value).toArray below meth c H locs 0 0 (MQ below (za_Qi D ca n0 r σ') ([.ref sb, .int xy1] : List Value).toArray s 0 0 (za_A n0)) (F0 m 13 ls [.int xs0]) := by
    intro H locs ls xs0 σ hI hl h
    unfold zf_Law_cell_13 at h
    exact za_iret hx hb hr hlk hI h (Nat.le_of_ble_eq_true rfl) (Nat.le_of_ble_eq_true rfl) zd_Law_cell_13
  unfold zf_Law_cell at h
  refine lv_iload_n hx hb zd_Law_cell_0 rfl (lv_at hl 1 rfl) ?_
  refine lv_aload_n hx hb zd_Law_cell_1 rfl (lv_at hl 0 rfl) ?_
  refine za_slen hx hb hX hI zd_Law_cell_2 ?_
  refine lv_icmp_ge hx hb (tgt := 12) zd_Law_cell_3 (by decide) (fun c1 => ?_) (fun c1 => ?_)
  · replace h := zb_t c1 h
    refine lv_iconst (v := nI 0) hx hb zd_Law_cell_12 (by decide) ?_
    exact B13 _ _ ls (nI 0) σ hI (lv_sub hl [] rfl) h
  · replace h := zb_f c1 h
    refine lv_aload_n hx hb zd_Law_cell_6 rfl (lv_at hl 0 rfl) ?_
    refine lv_iload_n hx hb zd_Law_cell_7 rfl (lv_at hl 1 rfl) ?_
    obtain ⟨v2, e3, h⟩ := zb_o h
    refine za_sld hx hb hX hI e3 zd_Law_cell_8 ?_
    refine lv_goto hx hb (tgt := 13) zd_Law_cell_9 (by decide) ?_
    exact B13 _ _ ls v2 σ hI (lv_sub hl [] rfl) h

def zf_Law_law_678 (sL : Nat) (sx : Nat → Int32) (k28 : Nat → Nat → Int32 → za_h → Option (Int32 × za_h)) (a1 : Nat) (a2 : Nat) (x3 : Int32) (σ : za_h) : Option (Int32 × za_h) :=
  k28 a1 a2 (x3 + nI 8) σ

def zf_Law_law_28 (sL : Nat) (sx : Nat → Int32) : Nat → Nat → Nat → Int32 → za_h → Option (Int32 × za_h)
  | 0, _, _, _, _ => none
  | n + 1, a1, a2, x3, σ =>
  if ((nI sL) - (nI 8)) < x3 then
  (some ((nI 1), σ))
  else
  ((zs_ld sL sx x3).bind fun v2 =>
  if (v2 &&& (nI 15)) = (nI 0) then
  ((zs_ld sL sx (x3 + (nI 1))).bind fun v5 =>
  (zs_ld sL sx (x3 + (nI 2))).bind fun v7 =>
  (zs_ld sL sx (x3 + (nI 3))).bind fun v9 =>
  (zs_ld sL sx (x3 + (nI 4))).bind fun v11 =>
  (zs_ld sL sx (x3 + (nI 5))).bind fun v13 =>
  (zg_c σ a1 0).bind fun _ =>
  (zf_TL_trust a1 v5 v7 v9 v11 v13 σ).bind fun (r16, σ17) =>
  (zs_ld sL sx (x3 + (nI 1))).bind fun v19 =>
  (zs_ld sL sx (x3 + (nI 2))).bind fun v21 =>
  (zs_ld sL sx (x3 + (nI 3))).bind fun v23 =>
  (zs_ld sL sx (x3 + (nI 4))).bind fun v25 =>
  (zs_ld sL sx (x3 + (nI 5))).bind fun v27 =>
  (zg_c σ17 a2 10).bind fun _ =>
  (zf_Mo_trust a2 v19 v21 v23 v25 v27 σ17).bind fun (r30, σ31) =>
  if r16 = r30 then
  (zf_Law_law_678 sL sx (zf_Law_law_28 sL sx n) a1 a2 x3 σ31)
  else
  (some ((nI 0), σ31)))
  else if (v2 &&& (nI 15)) = (nI 1) then
  ((zs_ld sL sx (x3 + (nI 1))).bind fun v35 =>
  (zs_ld sL sx (x3 + (nI 2))).bind fun v37 =>
  (zs_ld sL sx (x3 + (nI 3))).bind fun v39 =>
  (zs_ld sL sx (x3 + (nI 4))).bind fun v41 =>
  (zs_ld sL sx (x3 + (nI 5))).bind fun v43 =>
  (zs_ld sL sx (x3 + (nI 6))).bind fun v45 =>
  (zs_ld sL sx (x3 + (nI 7))).bind fun v47 =>
  (zg_c σ a1 0).bind fun _ =>
  (zf_TL_submit a1 v35 v37 v39 v41 v43 v45 v47 σ).bind fun (r50, σ51) =>
  (zs_ld sL sx (x3 + (nI 1))).bind fun v53 =>
  (zs_ld sL sx (x3 + (nI 2))).bind fun v55 =>
  (zs_ld sL sx (x3 + (nI 3))).bind fun v57 =>
  (zs_ld sL sx (x3 + (nI 4))).bind fun v59 =>
  (zs_ld sL sx (x3 + (nI 5))).bind fun v61 =>
  (zs_ld sL sx (x3 + (nI 6))).bind fun v63 =>
  (zs_ld sL sx (x3 + (nI 7))).bind fun v65 =>
  (zg_c σ51 a2 10).bind fun _ =>
  (zf_Mo_submit a2 v53 v55 v57 v59 v61 v63 v65 σ51).bind fun (r68, σ69) =>
  if r50 = r68 then
  (zf_Law_law_678 sL sx (zf_Law_law_28 sL sx n) a1 a2 x3 σ69)
  else
  (some ((nI 0), σ69)))
  else if (v2 &&& (nI 15)) = (nI 2) then
  ((zs_ld sL sx (x3 + (nI 1))).bind fun v73 =>
  (zs_ld sL sx (x3 + (nI 2))).bind fun v75 =>
  (zg_c σ a1 0).bind fun _ =>
  (zf_TL_propose a1 v73 v75 σ).bind fun (r78, σ79) =>
  (zs_ld sL sx (x3 + (nI 1))).bind fun v81 =>
  (zs_ld sL sx (x3 + (nI 2))).bind fun v83 =>
  (zg_c σ79 a2 10).bind fun _ =>
  (zf_Mo_propose a2 v81 v83 σ79).bind fun (r86, σ87) =>
  if r78 = r86 then
  (zf_Law_law_678 sL sx (zf_Law_law_28 sL sx n) a1 a2 x3 σ87)
  else
  (some ((nI 0), σ87)))
  else if (v2 &&& (nI 15)) = (nI 3) then
  ((zs_ld sL sx (x3 + (nI 1))).bind fun v91 =>
  (zg_c σ a1 0).bind fun _ =>
  (zf_TL_timeout a1 v91 σ).bind fun (r94, σ95) =>
  (zs_ld sL sx (x3 + (nI 1))).bind fun v97 =>
  (zg_c σ95 a2 10).bind fun _ =>
  (zf_Mo_timeout a2 v97 σ95).bind fun (r100, σ101) =>
  if r94 = r100 then
  (zf_Law_law_678 sL sx (zf_Law_law_28 sL sx n) a1 a2 x3 σ101)
  else
  (some ((nI 0), σ101)))
  else if (v2 &&& (nI 15)) = (nI 4) then
  ((zs_ld sL sx (x3 + (nI 1))).bind fun v105 =>
  (zs_ld sL sx (x3 + (nI 2))).bind fun v107 =>
  (zg_c σ a1 0).bind fun _ =>
  (zf_TL_post a1 v105 v107 σ).bind fun (r110, σ111) =>
  (zs_ld sL sx (x3 + (nI 1))).bind fun v113 =>
  (zs_ld sL sx (x3 + (nI 2))).bind fun v115 =>
  (zg_c σ111 a2 10).bind fun _ =>
  (zf_Mo_post a2 v113 v115 σ111).bind fun (r118, σ119) =>
  if r110 = r118 then
  (zf_Law_law_678 sL sx (zf_Law_law_28 sL sx n) a1 a2 x3 σ119)
  else
  (some ((nI 0), σ119)))
  else if (v2 &&& (nI 15)) = (nI 5) then
  ((zs_ld sL sx (x3 + (nI 1))).bind fun v123 =>
  (zs_ld sL sx (x3 + (nI 2))).bind fun v125 =>
  (zs_ld sL sx (x3 + (nI 3))).bind fun v127 =>
  (zs_ld sL sx (x3 + (nI 4))).bind fun v129 =>
  (zs_ld sL sx (x3 + (nI 5))).bind fun v131 =>
  (zg_c σ a1 0).bind fun _ =>
  (zf_TL_forge a1 v123 v125 v127 v129 v131 σ).bind fun (r134, σ135) =>
  (zs_ld sL sx (x3 + (nI 1))).bind fun v137 =>
  (zs_ld sL sx (x3 + (nI 2))).bind fun v139 =>
  (zs_ld sL sx (x3 + (nI 3))).bind fun v141 =>
  (zs_ld sL sx (x3 + (nI 4))).bind fun v143 =>
  (zs_ld sL sx (x3 + (nI 5))).bind fun v145 =>
  (zg_c σ135 a2 10).bind fun _ =>
  (zf_Mo_forge a2 v137 v139 v141 v143 v145 σ135).bind fun (r148, σ149) =>
  if r134 = r148 then
  (zf_Law_law_678 sL sx (zf_Law_law_28 sL sx n) a1 a2 x3 σ149)
  else
  (some ((nI 0), σ149)))
  else if (v2 &&& (nI 15)) = (nI 6) then
  ((zs_ld sL sx (x3 + (nI 1))).bind fun v153 =>
  (zs_ld sL sx (x3 + (nI 2))).bind fun v155 =>
  (zg_c σ a1 0).bind fun _ =>
  (zf_TL_deliver a1 v153 v155 σ).bind fun (r158, σ159) =>
  (zs_ld sL sx (x3 + (nI 1))).bind fun v161 =>
  (zs_ld sL sx (x3 + (nI 2))).bind fun v163 =>
  (zg_c σ159 a2 10).bind fun _ =>
  (zf_Mo_deliver a2 v161 v163 σ159).bind fun (r166, σ167) =>
  if r158 = r166 then
  (zf_Law_law_678 sL sx (zf_Law_law_28 sL sx n) a1 a2 x3 σ167)
  else
  (some ((nI 0), σ167)))
  else if (v2 &&& (nI 15)) = (nI 7) then
  ((zg_c σ a1 0).bind fun _ =>
  (zf_TL_envelopes a1 σ).bind fun (r172, σ173) =>
  (zg_c σ173 a2 10).bind fun _ =>
  (zf_Mo_envelopes a2 σ173).bind fun (r176, σ177) =>
  if r172 = r176 then
  (zf_Law_law_678 sL sx (zf_Law_law_28 sL sx n) a1 a2 x3 σ177)
  else
  (some ((nI 0), σ177)))
  else if (v2 &&& (nI 15)) = (nI 8) then
  ((zs_ld sL sx (x3 + (nI 1))).bind fun v181 =>
  (zs_ld sL sx (x3 + (nI 2))).bind fun v183 =>
  (zg_c σ a1 0).bind fun _ =>
  (zf_TL_state a1 v181 v183 σ).bind fun (r186, σ187) =>
  (zs_ld sL sx (x3 + (nI 1))).bind fun v189 =>
  (zs_ld sL sx (x3 + (nI 2))).bind fun v191 =>
  (zg_c σ187 a2 10).bind fun _ =>
  (zf_Mo_state a2 v189 v191 σ187).bind fun (r194, σ195) =>
  if r186 = r194 then
  (zf_Law_law_678 sL sx (zf_Law_law_28 sL sx n) a1 a2 x3 σ195)
  else
  (some ((nI 0), σ195)))
  else if (v2 &&& (nI 15)) = (nI 9) then
  ((zs_ld sL sx (x3 + (nI 1))).bind fun v199 =>
  (zs_ld sL sx (x3 + (nI 2))).bind fun v201 =>
  (zs_ld sL sx (x3 + (nI 3))).bind fun v203 =>
  (zs_ld sL sx (x3 + (nI 4))).bind fun v205 =>
  (zg_c σ a1 0).bind fun _ =>
  (zf_TL_statements a1 v199 v201 v203 v205 σ).bind fun (r208, σ209) =>
  (zs_ld sL sx (x3 + (nI 1))).bind fun v211 =>
  (zs_ld sL sx (x3 + (nI 2))).bind fun v213 =>
  (zs_ld sL sx (x3 + (nI 3))).bind fun v215 =>
  (zs_ld sL sx (x3 + (nI 4))).bind fun v217 =>
  (zg_c σ209 a2 10).bind fun _ =>
  (zf_Mo_statements a2 v211 v213 v215 v217 σ209).bind fun (r220, σ221) =>
  if r208 = r220 then
  (zf_Law_law_678 sL sx (zf_Law_law_28 sL sx n) a1 a2 x3 σ221)
  else
  (some ((nI 0), σ221)))
  else if (v2 &&& (nI 15)) = (nI 10) then
  ((zs_ld sL sx (x3 + (nI 1))).bind fun v225 =>
  (zs_ld sL sx (x3 + (nI 2))).bind fun v227 =>
  (zg_c σ a1 0).bind fun _ =>
  (zf_TL_value a1 v225 v227 σ).bind fun (r230, σ231) =>
  (zs_ld sL sx (x3 + (nI 1))).bind fun v233 =>
  (zs_ld sL sx (x3 + (nI 2))).bind fun v235 =>
  (zg_c σ231 a2 10).bind fun _ =>
  (zf_Mo_value a2 v233 v235 σ231).bind fun (r238, σ239) =>
  if r230 = r238 then
  (zf_Law_law_678 sL sx (zf_Law_law_28 sL sx n) a1 a2 x3 σ239)
  else
  (some ((nI 0), σ239)))
  else if (v2 &&& (nI 15)) = (nI 11) then
  ((zs_ld sL sx (x3 + (nI 1))).bind fun v243 =>
  (zg_c σ a1 0).bind fun _ =>
  (zf_TL_header a1 v243 σ).bind fun (r246, σ247) =>
  (zs_ld sL sx (x3 + (nI 1))).bind fun v249 =>
  (zg_c σ247 a2 10).bind fun _ =>
  (zf_Mo_header a2 v249 σ247).bind fun (r252, σ253) =>
  if r246 = r252 then
  (zf_Law_law_678 sL sx (zf_Law_law_28 sL sx n) a1 a2 x3 σ253)
  else
  (some ((nI 0), σ253)))
  else if (v2 &&& (nI 15)) = (nI 12) then
  ((zs_ld sL sx (x3 + (nI 1))).bind fun v257 =>
  (zs_ld sL sx (x3 + (nI 2))).bind fun v259 =>
  (zs_ld sL sx (x3 + (nI 3))).bind fun v261 =>
  (zg_c σ a1 0).bind fun _ =>
  (zf_TL_balance a1 v257 v259 v261 σ).bind fun (r264, σ265) =>
  (zs_ld sL sx (x3 + (nI 1))).bind fun v267 =>
  (zs_ld sL sx (x3 + (nI 2))).bind fun v269 =>
  (zs_ld sL sx (x3 + (nI 3))).bind fun v271 =>
  (zg_c σ265 a2 10).bind fun _ =>
  (zf_Mo_balance a2 v267 v269 v271 σ265).bind fun (r274, σ275) =>
  if r264 = r274 then
  (zf_Law_law_678 sL sx (zf_Law_law_28 sL sx n) a1 a2 x3 σ275)
  else
  (some ((nI 0), σ275)))
  else if (v2 &&& (nI 15)) = (nI 13) then
  ((zs_ld sL sx (x3 + (nI 1))).bind fun v279 =>
  (zs_ld sL sx (x3 + (nI 2))).bind fun v281 =>
  (zg_c σ a1 0).bind fun _ =>
  (zf_TL_offer a1 v279 v281 σ).bind fun (r284, σ285) =>
  (zs_ld sL sx (x3 + (nI 1))).bind fun v287 =>
  (zs_ld sL sx (x3 + (nI 2))).bind fun v289 =>
  (zg_c σ285 a2 10).bind fun _ =>
  (zf_Mo_offer a2 v287 v289 σ285).bind fun (r292, σ293) =>
  if r284 = r292 then
  (zf_Law_law_678 sL sx (zf_Law_law_28 sL sx n) a1 a2 x3 σ293)
  else
  (some ((nI 0), σ293)))
  else (zf_Law_law_678 sL sx (zf_Law_law_28 sL sx n) a1 a2 x3 σ))

def zf_Law_law (sL : Nat) (sx : Nat → Int32) (σ : za_h) : Option (Int32 × za_h) :=
  (zf_Law_cell sL sx (nI 0) (za_n σ (.inr (0, [.int 0, .null, .null, .null, .null, .int 0, .int 0])))).bind fun (r1, σ2) =>
  (zf_TL_init σ.2 r1 σ2).bind fun (_, σ5) =>
  (zf_Law_cell sL sx (nI 0) (za_n σ5 (.inr (10, [.int 0, .int 0, .null, .null, .null, .null, .null, .null, .null, .null, .null, .null, .null, .null, .null, .null, .int 0, .null, .null, .null, .null, .null, .null, .null, .null, .null, .null, .null, .null, .null, .null, .null])))).bind fun (r7, σ8) =>
  (zf_Mo_init σ5.2 r7 σ8).bind fun (_, σ11) =>
  zf_Law_law_28 sL sx 513 σ.2 σ5.2 (nI 1) σ11
set_option maxRecDepth 100000 in
set_option maxHeartbeats 4000000 in
theorem zm_Law_law {p : Program} {e : Env} {s : State} {m : MethodId} {below : List Frame} {meth : Method} {c : Code} {l : Launch} {D : va_G} {ca : Nat → ClassId} {sb sL : Nat} {sx : Nat → Int32} {ls : Array Slot} {σ σ' : za_h} (hx : p.tables.exec = Jvm.exec) (hb : c.code = code) (hml : c.maxLocals = 4) (hr : meth.sig.returnType = ret) (hlk : meth.locks = false) (hts : ∀ w ∈ za_ws, w.before #[Value.ref sb] s = true) (hown : s.vm.findClass zR_Law = some m.cls) (hK : za_K D ca s) (hX : za_X0 s.heap.size sb sL sx s) (hI : za_I D ca s.heap.size s σ s.heap []) (hl : lv_has ls 4 [(0, .ref sb)]) (h : zf_Law_law sL sx σ = some (nI 1, σ')) : W p l e room_1 s m #[Value.ref sb] below meth c s.heap [] 0 0 (lw_Z below #[Value.ref sb] s) (F0 m 0 ls []) := by
  have B678 : ∀ n : Nat, ∀ (k28 : Nat → Nat → Int32 → za_h → Option (Int32 × za_h)), (∀ (H : Heap) (locs : List Loc) (cells slots : Nat) (_ : cells + n * 4 ≤ 2370) (_ : slots + n * 16 ≤ 11610) (ls : Array Slot) (a1 : Nat) (a2 : Nat) (x3 : Int32) (σ : za_h), za_I D ca s.heap.size s σ H locs → lv_has ls 4 [(0, .ref sb), (1, .ref a1), (2, .ref a2), (3, .int x3)] → k28 a1 a2 x3 σ = some (nI 1, σ') → W p l e room_1 s m #[Value.ref sb] below meth c H locs cells slots (lw_Z below #[Value.ref sb] s) (F0 m 28 ls [])) → ∀ (H : Heap) (locs : List Loc) (cells slots : Nat) (_ : cells + (n + 1) * 4 ≤ 2374) (_ : slots + (n + 1) * 16 ≤ 11626) (ls : Array Slot) (a1 : Nat) (a2 : Nat) (x3 : Int32) (σ : za_h), za_I D ca s.heap.size s σ H locs → lv_has ls 4 [(0, .ref sb), (1, .ref a1), (2, .ref a2), (3, .int x3)] → zf_Law_law_678 sL sx k28 a1 a2 x3 σ = some (nI 1, σ') → W p l e room_1 s m #[Value.ref sb] below meth c H locs cells slots (lw_Z below #[Value.ref sb] s) (F0 m 678 ls []) := by
    intro n k28 hk28 H locs cells slots hcl hsl ls a1 a2 x3 σ hI hl h
    unfold zf_Law_law_678 at h
    refine lv_iinc (k := 3) (v := (x3 + nI 8)) (lv' := [(3, .int (x3 + nI 8)), (0, .ref sb), (1, .ref a1), (2, .ref a2)]) hx hb zd_Law_law_678 hl rfl rfl (Nat.le_of_ble_eq_true rfl) rfl (fun ls hl => ?_)
    refine lv_goto hx hb (tgt := 28) zd_Law_law_681 (by decide) ?_
    exact hk28 _ _ _ _ (by omega) (by omega) ls a1 a2 (x3 + nI 8) σ hI (lv_sub hl [1, 2, 3, 0] rfl) h
  have B28 : ∀ n : Nat, ∀ (H : Heap) (locs : List Loc) (cells slots : Nat) (_ : cells + n * 4 ≤ 2370) (_ : slots + n * 16 ≤ 11610) (ls : Array Slot) (a1 : Nat) (a2 : Nat) (x3 : Int32) (σ : za_h), za_I D ca s.heap.size s σ H locs → lv_has ls 4 [(0, .ref sb), (1, .ref a1), (2, .ref a2), (3, .int x3)] → zf_Law_law_28 sL sx n a1 a2 x3 σ = some (nI 1, σ') → W p l e room_1 s m #[Value.ref sb] below meth c H locs cells slots (lw_Z below #[Value.ref sb] s) (F0 m 28 ls []) := by
    intro n
    induction n with
    | zero => intro H locs cells slots hcl hsl ls a1 a2 x3 σ hI hl h; rw [zf_Law_law_28] at h; cases h
    | succ n ih =>
      intro H locs cells slots hcl hsl ls a1 a2 x3 σ hI hl h
      rw [zf_Law_law_28] at h
      refine lv_iload_n hx hb zd_Law_law_28 rfl (lv_at hl 3 rfl) ?_
      refine lv_aload_n hx hb zd_Law_law_29 rfl (lv_at hl 0 rfl) ?_
      refine za_slen hx hb hX hI zd_Law_law_30 ?_
      refine lv_bipush (v := nI 8) hx hb zd_Law_law_31 (by decide) ?_
      refine lv_isub hx hb zd_Law_law_33 ?_
      refine lv_icmp_gt hx hb (tgt := 684) zd_Law_law_34 (by decide) (fun c1 => ?_) (fun c1 => ?_)
      · replace h := zb_t c1 h
        refine lv_iconst (v := nI 1) hx hb zd_Law_law_684 (by decide) ?_
        refine W.widen (k := 727966) (n := 6918349) (by omega) (by omega) (va_forget (fun q hq => hI.2.2.2 q hq) ?_)
        exact lw_ret hx hb hr hlk zd_Law_law_685
      · replace h := zb_f c1 h
        refine lv_aload_n hx hb zd_Law_law_37 rfl (lv_at hl 0 rfl) ?_
        refine lv_iload_n hx hb zd_Law_law_38 rfl (lv_at hl 3 rfl) ?_
        obtain ⟨v2, e3, h⟩ := zb_o h
        refine za_sld hx hb hX hI e3 zd_Law_law_39 ?_
        refine lv_bipush (v := nI 15) hx hb zd_Law_law_40 (by decide) ?_
        refine lv_iand hx hb zd_Law_law_42 ?_
        by_cases c4 : (v2 &&& (nI 15)) = (nI 0)
        · replace h := zb_t c4 h
          refine lv_tableIn hx hb (tgt := 112) zd_Law_law_43 (by rw [c4]; decide) (by rw [c4]; decide) (by rw [c4]; rfl) (by decide) ?_
          refine lv_aload_n hx hb zd_Law_law_112 rfl (lv_at hl 1 rfl) ?_
          refine lv_aload_n hx hb zd_Law_law_113 rfl (lv_at hl 0 rfl) ?_
          refine lv_iload_n hx hb zd_Law_law_114 rfl (lv_at hl 3 rfl) ?_
          refine lv_iconst (v := nI 1) hx hb zd_Law_law_115 (by decide) ?_
          refine lv_iadd hx hb zd_Law_law_116 ?_
          obtain ⟨v5, e6, h⟩ := zb_o h
          refine za_sld hx hb hX hI e6 zd_Law_law_117 ?_
          refine lv_aload_n hx hb zd_Law_law_118 rfl (lv_at hl 0 rfl) ?_
          refine lv_iload_n hx hb zd_Law_law_119 rfl (lv_at hl 3 rfl) ?_
          refine lv_iconst (v := nI 2) hx hb zd_Law_law_120 (by decide) ?_
          refine lv_iadd hx hb zd_Law_law_121 ?_
          obtain ⟨v7, e8, h⟩ := zb_o h
          refine za_sld hx hb hX hI e8 zd_Law_law_122 ?_
          refine lv_aload_n hx hb zd_Law_law_123 rfl (lv_at hl 0 rfl) ?_
          refine lv_iload_n hx hb zd_Law_law_124 rfl (lv_at hl 3 rfl) ?_
          refine lv_iconst (v := nI 3) hx hb zd_Law_law_125 (by decide) ?_
          refine lv_iadd hx hb zd_Law_law_126 ?_
          obtain ⟨v9, e10, h⟩ := zb_o h
          refine za_sld hx hb hX hI e10 zd_Law_law_127 ?_
          refine lv_aload_n hx hb zd_Law_law_128 rfl (lv_at hl 0 rfl) ?_
          refine lv_iload_n hx hb zd_Law_law_129 rfl (lv_at hl 3 rfl) ?_
          refine lv_iconst (v := nI 4) hx hb zd_Law_law_130 (by decide) ?_
          refine lv_iadd hx hb zd_Law_law_131 ?_
          obtain ⟨v11, e12, h⟩ := zb_o h
          refine za_sld hx hb hX hI e12 zd_Law_law_132 ?_
          refine lv_aload_n hx hb zd_Law_law_133 rfl (lv_at hl 0 rfl) ?_
          refine lv_iload_n hx hb zd_Law_law_134 rfl (lv_at hl 3 rfl) ?_
          refine lv_iconst (v := nI 5) hx hb zd_Law_law_135 (by decide) ?_
          refine lv_iadd hx hb zd_Law_law_136 ?_
          obtain ⟨v13, e14, h⟩ := zb_o h
          refine za_sld hx hb hX hI e14 zd_Law_law_137 ?_
          obtain ⟨_, g15, h⟩ := zb_o h
          obtain ⟨⟨r16, σ17⟩, e18, h⟩ := zb_o h
          refine za_calli (za_runV hx hb hml hown hts hK hI g15 (zm_TL_trust e18) zj_Law_21 ⟨rfl, rfl⟩ ⟨Nat.le_of_ble_eq_true rfl, Nat.le_of_ble_eq_true rfl⟩ rfl hl.1 rfl (Nat.le_of_ble_eq_true rfl) zd_Law_law_138 ⟨by show _ + _ ≤ 727966; omega, by show _ + _ ≤ 6918349; omega⟩) hI (fun H locs hI => ?_)
          refine lv_aload_n hx hb zd_Law_law_141 rfl (lv_at hl 2 rfl) ?_
          refine lv_aload_n hx hb zd_Law_law_142 rfl (lv_at hl 0 rfl) ?_
          refine lv_iload_n hx hb zd_Law_law_143 rfl (lv_at hl 3 rfl) ?_
          refine lv_iconst (v := nI 1) hx hb zd_Law_law_144 (by decide) ?_
          refine lv_iadd hx hb zd_Law_law_145 ?_
          obtain ⟨v19, e20, h⟩ := zb_o h
          refine za_sld hx hb hX hI e20 zd_Law_law_146 ?_
          refine lv_aload_n hx hb zd_Law_law_147 rfl (lv_at hl 0 rfl) ?_
          refine lv_iload_n hx hb zd_Law_law_148 rfl (lv_at hl 3 rfl) ?_
          refine lv_iconst (v := nI 2) hx hb zd_Law_law_149 (by decide) ?_
          refine lv_iadd hx hb zd_Law_law_150 ?_
          obtain ⟨v21, e22, h⟩ := zb_o h
          refine za_sld hx hb hX hI e22 zd_Law_law_151 ?_
          refine lv_aload_n hx hb zd_Law_law_152 rfl (lv_at hl 0 rfl) ?_
          refine lv_iload_n hx hb zd_Law_law_153 rfl (lv_at hl 3 rfl) ?_
          refine lv_iconst (v := nI 3) hx hb zd_Law_law_154 (by decide) ?_
          refine lv_iadd hx hb zd_Law_law_155 ?_
          obtain ⟨v23, e24, h⟩ := zb_o h
          refine za_sld hx hb hX hI e24 zd_Law_law_156 ?_
          refine lv_aload_n hx hb zd_Law_law_157 rfl (lv_at hl 0 rfl) ?_
          refine lv_iload_n hx hb zd_Law_law_158 rfl (lv_at hl 3 rfl) ?_
          refine lv_iconst (v := nI 4) hx hb zd_Law_law_159 (by decide) ?_
          refine lv_iadd hx hb zd_Law_law_160 ?_
          obtain ⟨v25, e26, h⟩ := zb_o h
          refine za_sld hx hb hX hI e26 zd_Law_law_161 ?_
          refine lv_aload_n hx hb zd_Law_law_162 rfl (lv_at hl 0 rfl) ?_
          refine lv_iload_n hx hb zd_Law_law_163 rfl (lv_at hl 3 rfl) ?_
          refine lv_iconst (v := nI 5) hx hb zd_Law_law_164 (by decide) ?_
          refine lv_iadd hx hb zd_Law_law_165 ?_
          obtain ⟨v27, e28, h⟩ := zb_o h
          refine za_sld hx hb hX hI e28 zd_Law_law_166 ?_
          obtain ⟨_, g29, h⟩ := zb_o h
          obtain ⟨⟨r30, σ31⟩, e32, h⟩ := zb_o h
          refine za_calli (za_runV hx hb hml hown hts hK hI g29 (zm_Mo_trust e32) zj_Law_25 ⟨rfl, rfl⟩ ⟨Nat.le_of_ble_eq_true rfl, Nat.le_of_ble_eq_true rfl⟩ rfl hl.1 rfl (Nat.le_of_ble_eq_true rfl) zd_Law_law_167 ⟨by show _ + _ ≤ 727966; omega, by show _ + _ ≤ 6918349; omega⟩) hI (fun H locs hI => ?_)
          refine lv_icmp_eq hx hb (tgt := 678) zd_Law_law_170 (by decide) (fun c33 => ?_) (fun c33 => ?_)
          · replace h := zb_t c33 h
            exact B678 n _ ih _ _ _ _ (by omega) (by omega) ls a1 a2 x3 σ31 hI (lv_sub hl [0, 1, 2, 3] rfl) h
          · replace h := zb_f c33 h
            refine lv_iconst (v := nI 0) hx hb zd_Law_law_173 (by decide) ?_
            exact (za_no h).elim
        replace h := zb_f c4 h
        by_cases c34 : (v2 &&& (nI 15)) = (nI 1)
        · replace h := zb_t c34 h
          refine lv_tableIn hx hb (tgt := 175) zd_Law_law_43 (by rw [c34]; decide) (by rw [c34]; decide) (by rw [c34]; rfl) (by decide) ?_
          refine lv_aload_n hx hb zd_Law_law_175 rfl (lv_at hl 1 rfl) ?_
          refine lv_aload_n hx hb zd_Law_law_176 rfl (lv_at hl 0 rfl) ?_
          refine lv_iload_n hx hb zd_Law_law_177 rfl (lv_at hl 3 rfl) ?_
          refine lv_iconst (v := nI 1) hx hb zd_Law_law_178 (by decide) ?_
          refine lv_iadd hx hb zd_Law_law_179 ?_
          obtain ⟨v35, e36, h⟩ := zb_o h
          refine za_sld hx hb hX hI e36 zd_Law_law_180 ?_
          refine lv_aload_n hx hb zd_Law_law_181 rfl (lv_at hl 0 rfl) ?_
          refine lv_iload_n hx hb zd_Law_law_182 rfl (lv_at hl 3 rfl) ?_
          refine lv_iconst (v := nI 2) hx hb zd_Law_law_183 (by decide) ?_
          refine lv_iadd hx hb zd_Law_law_184 ?_
          obtain ⟨v37, e38, h⟩ := zb_o h
          refine za_sld hx hb hX hI e38 zd_Law_law_185 ?_
          refine lv_aload_n hx hb zd_Law_law_186 rfl (lv_at hl 0 rfl) ?_
          refine lv_iload_n hx hb zd_Law_law_187 rfl (lv_at hl 3 rfl) ?_
          refine lv_iconst (v := nI 3) hx hb zd_Law_law_188 (by decide) ?_
          refine lv_iadd hx hb zd_Law_law_189 ?_
          obtain ⟨v39, e40, h⟩ := zb_o h
          refine za_sld hx hb hX hI e40 zd_Law_law_190 ?_
          refine lv_aload_n hx hb zd_Law_law_191 rfl (lv_at hl 0 rfl) ?_
          refine lv_iload_n hx hb zd_Law_law_192 rfl (lv_at hl 3 rfl) ?_
          refine lv_iconst (v := nI 4) hx hb zd_Law_law_193 (by decide) ?_
          refine lv_iadd hx hb zd_Law_law_194 ?_
          obtain ⟨v41, e42, h⟩ := zb_o h
          refine za_sld hx hb hX hI e42 zd_Law_law_195 ?_
          refine lv_aload_n hx hb zd_Law_law_196 rfl (lv_at hl 0 rfl) ?_
          refine lv_iload_n hx hb zd_Law_law_197 rfl (lv_at hl 3 rfl) ?_
          refine lv_iconst (v := nI 5) hx hb zd_Law_law_198 (by decide) ?_
          refine lv_iadd hx hb zd_Law_law_199 ?_
          obtain ⟨v43, e44, h⟩ := zb_o h
          refine za_sld hx hb hX hI e44 zd_Law_law_200 ?_
          refine lv_aload_n hx hb zd_Law_law_201 rfl (lv_at hl 0 rfl) ?_
          refine lv_iload_n hx hb zd_Law_law_202 rfl (lv_at hl 3 rfl) ?_
          refine lv_bipush (v := nI 6) hx hb zd_Law_law_203 (by decide) ?_
          refine lv_iadd hx hb zd_Law_law_205 ?_
          obtain ⟨v45, e46, h⟩ := zb_o h
          refine za_sld hx hb hX hI e46 zd_Law_law_206 ?_
          refine lv_aload_n hx hb zd_Law_law_207 rfl (lv_at hl 0 rfl) ?_
          refine lv_iload_n hx hb zd_Law_law_208 rfl (lv_at hl 3 rfl) ?_
          refine lv_bipush (v := nI 7) hx hb zd_Law_law_209 (by decide) ?_
          refine lv_iadd hx hb zd_Law_law_211 ?_
          obtain ⟨v47, e48, h⟩ := zb_o h
          refine za_sld hx hb hX hI e48 zd_Law_law_212 ?_
          obtain ⟨_, g49, h⟩ := zb_o h
          obtain ⟨⟨r50, σ51⟩, e52, h⟩ := zb_o h
          refine za_calli (za_runV hx hb hml hown hts hK hI g49 (zm_TL_submit e52) zj_Law_26 ⟨rfl, rfl⟩ ⟨Nat.le_of_ble_eq_true rfl, Nat.le_of_ble_eq_true rfl⟩ rfl hl.1 rfl (Nat.le_of_ble_eq_true rfl) zd_Law_law_213 ⟨by show _ + _ ≤ 727966; omega, by show _ + _ ≤ 6918349; omega⟩) hI (fun H locs hI => ?_)
          refine lv_aload_n hx hb zd_Law_law_216 rfl (lv_at hl 2 rfl) ?_
          refine lv_aload_n hx hb zd_Law_law_217 rfl (lv_at hl 0 rfl) ?_
          refine lv_iload_n hx hb zd_Law_law_218 rfl (lv_at hl 3 rfl) ?_
          refine lv_iconst (v := nI 1) hx hb zd_Law_law_219 (by decide) ?_
          refine lv_iadd hx hb zd_Law_law_220 ?_
          obtain ⟨v53, e54, h⟩ := zb_o h
          refine za_sld hx hb hX hI e54 zd_Law_law_221 ?_
          refine lv_aload_n hx hb zd_Law_law_222 rfl (lv_at hl 0 rfl) ?_
          refine lv_iload_n hx hb zd_Law_law_223 rfl (lv_at hl 3 rfl) ?_
          refine lv_iconst (v := nI 2) hx hb zd_Law_law_224 (by decide) ?_
          refine lv_iadd hx hb zd_Law_law_225 ?_
          obtain ⟨v55, e56, h⟩ := zb_o h
          refine za_sld hx hb hX hI e56 zd_Law_law_226 ?_
          refine lv_aload_n hx hb zd_Law_law_227 rfl (lv_at hl 0 rfl) ?_
          refine lv_iload_n hx hb zd_Law_law_228 rfl (lv_at hl 3 rfl) ?_
          refine lv_iconst (v := nI 3) hx hb zd_Law_law_229 (by decide) ?_
          refine lv_iadd hx hb zd_Law_law_230 ?_
          obtain ⟨v57, e58, h⟩ := zb_o h
          refine za_sld hx hb hX hI e58 zd_Law_law_231 ?_
          refine lv_aload_n hx hb zd_Law_law_232 rfl (lv_at hl 0 rfl) ?_
          refine lv_iload_n hx hb zd_Law_law_233 rfl (lv_at hl 3 rfl) ?_
          refine lv_iconst (v := nI 4) hx hb zd_Law_law_234 (by decide) ?_
          refine lv_iadd hx hb zd_Law_law_235 ?_
          obtain ⟨v59, e60, h⟩ := zb_o h
          refine za_sld hx hb hX hI e60 zd_Law_law_236 ?_
          refine lv_aload_n hx hb zd_Law_law_237 rfl (lv_at hl 0 rfl) ?_
          refine lv_iload_n hx hb zd_Law_law_238 rfl (lv_at hl 3 rfl) ?_
          refine lv_iconst (v := nI 5) hx hb zd_Law_law_239 (by decide) ?_
          refine lv_iadd hx hb zd_Law_law_240 ?_
          obtain ⟨v61, e62, h⟩ := zb_o h
          refine za_sld hx hb hX hI e62 zd_Law_law_241 ?_
          refine lv_aload_n hx hb zd_Law_law_242 rfl (lv_at hl 0 rfl) ?_
          refine lv_iload_n hx hb zd_Law_law_243 rfl (lv_at hl 3 rfl) ?_
          refine lv_bipush (v := nI 6) hx hb zd_Law_law_244 (by decide) ?_
          refine lv_iadd hx hb zd_Law_law_246 ?_
          obtain ⟨v63, e64, h⟩ := zb_o h
          refine za_sld hx hb hX hI e64 zd_Law_law_247 ?_
          refine lv_aload_n hx hb zd_Law_law_248 rfl (lv_at hl 0 rfl) ?_
          refine lv_iload_n hx hb zd_Law_law_249 rfl (lv_at hl 3 rfl) ?_
          refine lv_bipush (v := nI 7) hx hb zd_Law_law_250 (by decide) ?_
          refine lv_iadd hx hb zd_Law_law_252 ?_
          obtain ⟨v65, e66, h⟩ := zb_o h
          refine za_sld hx hb hX hI e66 zd_Law_law_253 ?_
          obtain ⟨_, g67, h⟩ := zb_o h
          obtain ⟨⟨r68, σ69⟩, e70, h⟩ := zb_o h
          refine za_calli (za_runV hx hb hml hown hts hK hI g67 (zm_Mo_submit e70) zj_Law_30 ⟨rfl, rfl⟩ ⟨Nat.le_of_ble_eq_true rfl, Nat.le_of_ble_eq_true rfl⟩ rfl hl.1 rfl (Nat.le_of_ble_eq_true rfl) zd_Law_law_254 ⟨by show _ + _ ≤ 727966; omega, by show _ + _ ≤ 6918349; omega⟩) hI (fun H locs hI => ?_)
          refine lv_icmp_eq hx hb (tgt := 678) zd_Law_law_257 (by decide) (fun c71 => ?_) (fun c71 => ?_)
          · replace h := zb_t c71 h
            exact B678 n _ ih _ _ _ _ (by omega) (by omega) ls a1 a2 x3 σ69 hI (lv_sub hl [0, 1, 2, 3] rfl) h
          · replace h := zb_f c71 h
            refine lv_iconst (v := nI 0) hx hb zd_Law_law_260 (by decide) ?_
            exact (za_no h).elim
        replace h := zb_f c34 h
        by_cases c72 : (v2 &&& (nI 15)) = (nI 2)
        · replace h := zb_t c72 h
          refine lv_tableIn hx hb (tgt := 262) zd_Law_law_43 (by rw [c72]; decide) (by rw [c72]; decide) (by rw [c72]; rfl) (by decide) ?_
          refine lv_aload_n hx hb zd_Law_law_262 rfl (lv_at hl 1 rfl) ?_
          refine lv_aload_n hx hb zd_Law_law_263 rfl (lv_at hl 0 rfl) ?_
          refine lv_iload_n hx hb zd_Law_law_264 rfl (lv_at hl 3 rfl) ?_
          refine lv_iconst (v := nI 1) hx hb zd_Law_law_265 (by decide) ?_
          refine lv_iadd hx hb zd_Law_law_266 ?_
          obtain ⟨v73, e74, h⟩ := zb_o h
          refine za_sld hx hb hX hI e74 zd_Law_law_267 ?_
          refine lv_aload_n hx hb zd_Law_law_268 rfl (lv_at hl 0 rfl) ?_
          refine lv_iload_n hx hb zd_Law_law_269 rfl (lv_at hl 3 rfl) ?_
          refine lv_iconst (v := nI 2) hx hb zd_Law_law_270 (by decide) ?_
          refine lv_iadd hx hb zd_Law_law_271 ?_
          obtain ⟨v75, e76, h⟩ := zb_o h
          refine za_sld hx hb hX hI e76 zd_Law_law_272 ?_
          obtain ⟨_, g77, h⟩ := zb_o h
          obtain ⟨⟨r78, σ79⟩, e80, h⟩ := zb_o h
          refine za_calli (za_runV hx hb hml hown hts hK hI g77 (zm_TL_propose e80) zj_Law_31 ⟨rfl, rfl⟩ ⟨Nat.le_of_ble_eq_true rfl, Nat.le_of_ble_eq_true rfl⟩ rfl hl.1 rfl (Nat.le_of_ble_eq_true rfl) zd_Law_law_273 ⟨by show _ + _ ≤ 727966; omega, by show _ + _ ≤ 6918349; omega⟩) hI (fun H locs hI => ?_)
          refine lv_aload_n hx hb zd_Law_law_276 rfl (lv_at hl 2 rfl) ?_
          refine lv_aload_n hx hb zd_Law_law_277 rfl (lv_at hl 0 rfl) ?_
          refine lv_iload_n hx hb zd_Law_law_278 rfl (lv_at hl 3 rfl) ?_
          refine lv_iconst (v := nI 1) hx hb zd_Law_law_279 (by decide) ?_
          refine lv_iadd hx hb zd_Law_law_280 ?_
          obtain ⟨v81, e82, h⟩ := zb_o h
          refine za_sld hx hb hX hI e82 zd_Law_law_281 ?_
          refine lv_aload_n hx hb zd_Law_law_282 rfl (lv_at hl 0 rfl) ?_
          refine lv_iload_n hx hb zd_Law_law_283 rfl (lv_at hl 3 rfl) ?_
          refine lv_iconst (v := nI 2) hx hb zd_Law_law_284 (by decide) ?_
          refine lv_iadd hx hb zd_Law_law_285 ?_
          obtain ⟨v83, e84, h⟩ := zb_o h
          refine za_sld hx hb hX hI e84 zd_Law_law_286 ?_
          obtain ⟨_, g85, h⟩ := zb_o h
          obtain ⟨⟨r86, σ87⟩, e88, h⟩ := zb_o h
          refine za_calli (za_runV hx hb hml hown hts hK hI g85 (zm_Mo_propose e88) zj_Law_35 ⟨rfl, rfl⟩ ⟨Nat.le_of_ble_eq_true rfl, Nat.le_of_ble_eq_true rfl⟩ rfl hl.1 rfl (Nat.le_of_ble_eq_true rfl) zd_Law_law_287 ⟨by show _ + _ ≤ 727966; omega, by show _ + _ ≤ 6918349; omega⟩) hI (fun H locs hI => ?_)
          refine lv_icmp_eq hx hb (tgt := 678) zd_Law_law_290 (by decide) (fun c89 => ?_) (fun c89 => ?_)
          · replace h := zb_t c89 h
            exact B678 n _ ih _ _ _ _ (by omega) (by omega) ls a1 a2 x3 σ87 hI (lv_sub hl [0, 1, 2, 3] rfl) h
          · replace h := zb_f c89 h
            refine lv_iconst (v := nI 0) hx hb zd_Law_law_293 (by decide) ?_
            exact (za_no h).elim
        replace h := zb_f c72 h
        by_cases c90 : (v2 &&& (nI 15)) = (nI 3)
        · replace h := zb_t c90 h
          refine lv_tableIn hx hb (tgt := 295) zd_Law_law_43 (by rw [c90]; decide) (by rw [c90]; decide) (by rw [c90]; rfl) (by decide) ?_
          refine lv_aload_n hx hb zd_Law_law_295 rfl (lv_at hl 1 rfl) ?_
          refine lv_aload_n hx hb zd_Law_law_296 rfl (lv_at hl 0 rfl) ?_
          refine lv_iload_n hx hb zd_Law_law_297 rfl (lv_at hl 3 rfl) ?_
          refine lv_iconst (v := nI 1) hx hb zd_Law_law_298 (by decide) ?_
          refine lv_iadd hx hb zd_Law_law_299 ?_
          obtain ⟨v91, e92, h⟩ := zb_o h
          refine za_sld hx hb hX hI e92 zd_Law_law_300 ?_
          obtain ⟨_, g93, h⟩ := zb_o h
          obtain ⟨⟨r94, σ95⟩, e96, h⟩ := zb_o h
          refine za_calli (za_runV hx hb hml hown hts hK hI g93 (zm_TL_timeout e96) zj_Law_36 ⟨rfl, rfl⟩ ⟨Nat.le_of_ble_eq_true rfl, Nat.le_of_ble_eq_true rfl⟩ rfl hl.1 rfl (Nat.le_of_ble_eq_true rfl) zd_Law_law_301 ⟨by show _ + _ ≤ 727966; omega, by show _ + _ ≤ 6918349; omega⟩) hI (fun H locs hI => ?_)
          refine lv_aload_n hx hb zd_Law_law_304 rfl (lv_at hl 2 rfl) ?_
          refine lv_aload_n hx hb zd_Law_law_305 rfl (lv_at hl 0 rfl) ?_
          refine lv_iload_n hx hb zd_Law_law_306 rfl (lv_at hl 3 rfl) ?_
          refine lv_iconst (v := nI 1) hx hb zd_Law_law_307 (by decide) ?_
          refine lv_iadd hx hb zd_Law_law_308 ?_
          obtain ⟨v97, e98, h⟩ := zb_o h
          refine za_sld hx hb hX hI e98 zd_Law_law_309 ?_
          obtain ⟨_, g99, h⟩ := zb_o h
          obtain ⟨⟨r100, σ101⟩, e102, h⟩ := zb_o h
          refine za_calli (za_runV hx hb hml hown hts hK hI g99 (zm_Mo_timeout e102) zj_Law_40 ⟨rfl, rfl⟩ ⟨Nat.le_of_ble_eq_true rfl, Nat.le_of_ble_eq_true rfl⟩ rfl hl.1 rfl (Nat.le_of_ble_eq_true rfl) zd_Law_law_310 ⟨by show _ + _ ≤ 727966; omega, by show _ + _ ≤ 6918349; omega⟩) hI (fun H locs hI => ?_)
          refine lv_icmp_eq hx hb (tgt := 678) zd_Law_law_313 (by decide) (fun c103 => ?_) (fun c103 => ?_)
          · replace h := zb_t c103 h
            exact B678 n _ ih _ _ _ _ (by omega) (by omega) ls a1 a2 x3 σ101 hI (lv_sub hl [0, 1, 2, 3] rfl) h
          · replace h := zb_f c103 h
            refine lv_iconst (v := nI 0) hx hb zd_Law_law_316 (by decide) ?_
            exact (za_no h).elim
        replace h := zb_f c90 h
        by_cases c104 : (v2 &&& (nI 15)) = (nI 4)
        · replace h := zb_t c104 h
          refine lv_tableIn hx hb (tgt := 318) zd_Law_law_43 (by rw [c104]; decide) (by rw [c104]; decide) (by rw [c104]; rfl) (by decide) ?_
          refine lv_aload_n hx hb zd_Law_law_318 rfl (lv_at hl 1 rfl) ?_
          refine lv_aload_n hx hb zd_Law_law_319 rfl (lv_at hl 0 rfl) ?_
          refine lv_iload_n hx hb zd_Law_law_320 rfl (lv_at hl 3 rfl) ?_
          refine lv_iconst (v := nI 1) hx hb zd_Law_law_321 (by decide) ?_
          refine lv_iadd hx hb zd_Law_law_322 ?_
          obtain ⟨v105, e106, h⟩ := zb_o h
          refine za_sld hx hb hX hI e106 zd_Law_law_323 ?_
          refine lv_aload_n hx hb zd_Law_law_324 rfl (lv_at hl 0 rfl) ?_
          refine lv_iload_n hx hb zd_Law_law_325 rfl (lv_at hl 3 rfl) ?_
          refine lv_iconst (v := nI 2) hx hb zd_Law_law_326 (by decide) ?_
          refine lv_iadd hx hb zd_Law_law_327 ?_
          obtain ⟨v107, e108, h⟩ := zb_o h
          refine za_sld hx hb hX hI e108 zd_Law_law_328 ?_
          obtain ⟨_, g109, h⟩ := zb_o h
          obtain ⟨⟨r110, σ111⟩, e112, h⟩ := zb_o h
          refine za_calli (za_runV hx hb hml hown hts hK hI g109 (zm_TL_post e112) zj_Law_41 ⟨rfl, rfl⟩ ⟨Nat.le_of_ble_eq_true rfl, Nat.le_of_ble_eq_true rfl⟩ rfl hl.1 rfl (Nat.le_of_ble_eq_true rfl) zd_Law_law_329 ⟨by show _ + _ ≤ 727966; omega, by show _ + _ ≤ 6918349; omega⟩) hI (fun H locs hI => ?_)
          refine lv_aload_n hx hb zd_Law_law_332 rfl (lv_at hl 2 rfl) ?_
          refine lv_aload_n hx hb zd_Law_law_333 rfl (lv_at hl 0 rfl) ?_
          refine lv_iload_n hx hb zd_Law_law_334 rfl (lv_at hl 3 rfl) ?_
          refine lv_iconst (v := nI 1) hx hb zd_Law_law_335 (by decide) ?_
          refine lv_iadd hx hb zd_Law_law_336 ?_
          obtain ⟨v113, e114, h⟩ := zb_o h
          refine za_sld hx hb hX hI e114 zd_Law_law_337 ?_
          refine lv_aload_n hx hb zd_Law_law_338 rfl (lv_at hl 0 rfl) ?_
          refine lv_iload_n hx hb zd_Law_law_339 rfl (lv_at hl 3 rfl) ?_
          refine lv_iconst (v := nI 2) hx hb zd_Law_law_340 (by decide) ?_
          refine lv_iadd hx hb zd_Law_law_341 ?_
          obtain ⟨v115, e116, h⟩ := zb_o h
          refine za_sld hx hb hX hI e116 zd_Law_law_342 ?_
          obtain ⟨_, g117, h⟩ := zb_o h
          obtain ⟨⟨r118, σ119⟩, e120, h⟩ := zb_o h
          refine za_calli (za_runV hx hb hml hown hts hK hI g117 (zm_Mo_post e120) zj_Law_45 ⟨rfl, rfl⟩ ⟨Nat.le_of_ble_eq_true rfl, Nat.le_of_ble_eq_true rfl⟩ rfl hl.1 rfl (Nat.le_of_ble_eq_true rfl) zd_Law_law_343 ⟨by show _ + _ ≤ 727966; omega, by show _ + _ ≤ 6918349; omega⟩) hI (fun H locs hI => ?_)
          refine lv_icmp_eq hx hb (tgt := 678) zd_Law_law_346 (by decide) (fun c121 => ?_) (fun c121 => ?_)
          · replace h := zb_t c121 h
            exact B678 n _ ih _ _ _ _ (by omega) (by omega) ls a1 a2 x3 σ119 hI (lv_sub hl [0, 1, 2, 3] rfl) h
          · replace h := zb_f c121 h
            refine lv_iconst (v := nI 0) hx hb zd_Law_law_349 (by decide) ?_
            exact (za_no h).elim
        replace h := zb_f c104 h
        by_cases c122 : (v2 &&& (nI 15)) = (nI 5)
        · replace h := zb_t c122 h
          refine lv_tableIn hx hb (tgt := 351) zd_Law_law_43 (by rw [c122]; decide) (by rw [c122]; decide) (by rw [c122]; rfl) (by decide) ?_
          refine lv_aload_n hx hb zd_Law_law_351 rfl (lv_at hl 1 rfl) ?_
          refine lv_aload_n hx hb zd_Law_law_352 rfl (lv_at hl 0 rfl) ?_
          refine lv_iload_n hx hb zd_Law_law_353 rfl (lv_at hl 3 rfl) ?_
          refine lv_iconst (v := nI 1) hx hb zd_Law_law_354 (by decide) ?_
          refine lv_iadd hx hb zd_Law_law_355 ?_
          obtain ⟨v123, e124, h⟩ := zb_o h
          refine za_sld hx hb hX hI e124 zd_Law_law_356 ?_
          refine lv_aload_n hx hb zd_Law_law_357 rfl (lv_at hl 0 rfl) ?_
          refine lv_iload_n hx hb zd_Law_law_358 rfl (lv_at hl 3 rfl) ?_
          refine lv_iconst (v := nI 2) hx hb zd_Law_law_359 (by decide) ?_
          refine lv_iadd hx hb zd_Law_law_360 ?_
          obtain ⟨v125, e126, h⟩ := zb_o h
          refine za_sld hx hb hX hI e126 zd_Law_law_361 ?_
          refine lv_aload_n hx hb zd_Law_law_362 rfl (lv_at hl 0 rfl) ?_
          refine lv_iload_n hx hb zd_Law_law_363 rfl (lv_at hl 3 rfl) ?_
          refine lv_iconst (v := nI 3) hx hb zd_Law_law_364 (by decide) ?_
          refine lv_iadd hx hb zd_Law_law_365 ?_
          obtain ⟨v127, e128, h⟩ := zb_o h
          refine za_sld hx hb hX hI e128 zd_Law_law_366 ?_
          refine lv_aload_n hx hb zd_Law_law_367 rfl (lv_at hl 0 rfl) ?_
          refine lv_iload_n hx hb zd_Law_law_368 rfl (lv_at hl 3 rfl) ?_
          refine lv_iconst (v := nI 4) hx hb zd_Law_law_369 (by decide) ?_
          refine lv_iadd hx hb zd_Law_law_370 ?_
          obtain ⟨v129, e130, h⟩ := zb_o h
          refine za_sld hx hb hX hI e130 zd_Law_law_371 ?_
          refine lv_aload_n hx hb zd_Law_law_372 rfl (lv_at hl 0 rfl) ?_
          refine lv_iload_n hx hb zd_Law_law_373 rfl (lv_at hl 3 rfl) ?_
          refine lv_iconst (v := nI 5) hx hb zd_Law_law_374 (by decide) ?_
          refine lv_iadd hx hb zd_Law_law_375 ?_
          obtain ⟨v131, e132, h⟩ := zb_o h
          refine za_sld hx hb hX hI e132 zd_Law_law_376 ?_
          obtain ⟨_, g133, h⟩ := zb_o h
          obtain ⟨⟨r134, σ135⟩, e136, h⟩ := zb_o h
          refine za_calli (za_runV hx hb hml hown hts hK hI g133 (zm_TL_forge e136) zj_Law_46 ⟨rfl, rfl⟩ ⟨Nat.le_of_ble_eq_true rfl, Nat.le_of_ble_eq_true rfl⟩ rfl hl.1 rfl (Nat.le_of_ble_eq_true rfl) zd_Law_law_377 ⟨by show _ + _ ≤ 727966; omega, by show _ + _ ≤ 6918349; omega⟩) hI (fun H locs hI => ?_)
          refine lv_aload_n hx hb zd_Law_law_380 rfl (lv_at hl 2 rfl) ?_
          refine lv_aload_n hx hb zd_Law_law_381 rfl (lv_at hl 0 rfl) ?_
          refine lv_iload_n hx hb zd_Law_law_382 rfl (lv_at hl 3 rfl) ?_
          refine lv_iconst (v := nI 1) hx hb zd_Law_law_383 (by decide) ?_
          refine lv_iadd hx hb zd_Law_law_384 ?_
          obtain ⟨v137, e138, h⟩ := zb_o h
          refine za_sld hx hb hX hI e138 zd_Law_law_385 ?_
          refine lv_aload_n hx hb zd_Law_law_386 rfl (lv_at hl 0 rfl) ?_
          refine lv_iload_n hx hb zd_Law_law_387 rfl (lv_at hl 3 rfl) ?_
          refine lv_iconst (v := nI 2) hx hb zd_Law_law_388 (by decide) ?_
          refine lv_iadd hx hb zd_Law_law_389 ?_
          obtain ⟨v139, e140, h⟩ := zb_o h
          refine za_sld hx hb hX hI e140 zd_Law_law_390 ?_
          refine lv_aload_n hx hb zd_Law_law_391 rfl (lv_at hl 0 rfl) ?_
          refine lv_iload_n hx hb zd_Law_law_392 rfl (lv_at hl 3 rfl) ?_
          refine lv_iconst (v := nI 3) hx hb zd_Law_law_393 (by decide) ?_
          refine lv_iadd hx hb zd_Law_law_394 ?_
          obtain ⟨v141, e142, h⟩ := zb_o h
          refine za_sld hx hb hX hI e142 zd_Law_law_395 ?_
          refine lv_aload_n hx hb zd_Law_law_396 rfl (lv_at hl 0 rfl) ?_
          refine lv_iload_n hx hb zd_Law_law_397 rfl (lv_at hl 3 rfl) ?_
          refine lv_iconst (v := nI 4) hx hb zd_Law_law_398 (by decide) ?_
          refine lv_iadd hx hb zd_Law_law_399 ?_
          obtain ⟨v143, e144, h⟩ := zb_o h
          refine za_sld hx hb hX hI e144 zd_Law_law_400 ?_
          refine lv_aload_n hx hb zd_Law_law_401 rfl (lv_at hl 0 rfl) ?_
          refine lv_iload_n hx hb zd_Law_law_402 rfl (lv_at hl 3 rfl) ?_
          refine lv_iconst (v := nI 5) hx hb zd_Law_law_403 (by decide) ?_
          refine lv_iadd hx hb zd_Law_law_404 ?_
          obtain ⟨v145, e146, h⟩ := zb_o h
          refine za_sld hx hb hX hI e146 zd_Law_law_405 ?_
          obtain ⟨_, g147, h⟩ := zb_o h
          obtain ⟨⟨r148, σ149⟩, e150, h⟩ := zb_o h
          refine za_calli (za_runV hx hb hml hown hts hK hI g147 (zm_Mo_forge e150) zj_Law_50 ⟨rfl, rfl⟩ ⟨Nat.le_of_ble_eq_true rfl, Nat.le_of_ble_eq_true rfl⟩ rfl hl.1 rfl (Nat.le_of_ble_eq_true rfl) zd_Law_law_406 ⟨by show _ + _ ≤ 727966; omega, by show _ + _ ≤ 6918349; omega⟩) hI (fun H locs hI => ?_)
          refine lv_icmp_eq hx hb (tgt := 678) zd_Law_law_409 (by decide) (fun c151 => ?_) (fun c151 => ?_)
          · replace h := zb_t c151 h
            exact B678 n _ ih _ _ _ _ (by omega) (by omega) ls a1 a2 x3 σ149 hI (lv_sub hl [0, 1, 2, 3] rfl) h
          · replace h := zb_f c151 h
            refine lv_iconst (v := nI 0) hx hb zd_Law_law_412 (by decide) ?_
            exact (za_no h).elim
        replace h := zb_f c122 h
        by_cases c152 : (v2 &&& (nI 15)) = (nI 6)
        · replace h := zb_t c152 h
          refine lv_tableIn hx hb (tgt := 414) zd_Law_law_43 (by rw [c152]; decide) (by rw [c152]; decide) (by rw [c152]; rfl) (by decide) ?_
          refine lv_aload_n hx hb zd_Law_law_414 rfl (lv_at hl 1 rfl) ?_
          refine lv_aload_n hx hb zd_Law_law_415 rfl (lv_at hl 0 rfl) ?_
          refine lv_iload_n hx hb zd_Law_law_416 rfl (lv_at hl 3 rfl) ?_
          refine lv_iconst (v := nI 1) hx hb zd_Law_law_417 (by decide) ?_
          refine lv_iadd hx hb zd_Law_law_418 ?_
          obtain ⟨v153, e154, h⟩ := zb_o h
          refine za_sld hx hb hX hI e154 zd_Law_law_419 ?_
          refine lv_aload_n hx hb zd_Law_law_420 rfl (lv_at hl 0 rfl) ?_
          refine lv_iload_n hx hb zd_Law_law_421 rfl (lv_at hl 3 rfl) ?_
          refine lv_iconst (v := nI 2) hx hb zd_Law_law_422 (by decide) ?_
          refine lv_iadd hx hb zd_Law_law_423 ?_
          obtain ⟨v155, e156, h⟩ := zb_o h
          refine za_sld hx hb hX hI e156 zd_Law_law_424 ?_
          obtain ⟨_, g157, h⟩ := zb_o h
          obtain ⟨⟨r158, σ159⟩, e160, h⟩ := zb_o h
          refine za_calli (za_runV hx hb hml hown hts hK hI g157 (zm_TL_deliver e160) zj_Law_51 ⟨rfl, rfl⟩ ⟨Nat.le_of_ble_eq_true rfl, Nat.le_of_ble_eq_true rfl⟩ rfl hl.1 rfl (Nat.le_of_ble_eq_true rfl) zd_Law_law_425 ⟨by show _ + _ ≤ 727966; omega, by show _ + _ ≤ 6918349; omega⟩) hI (fun H locs hI => ?_)
          refine lv_aload_n hx hb zd_Law_law_428 rfl (lv_at hl 2 rfl) ?_
          refine lv_aload_n hx hb zd_Law_law_429 rfl (lv_at hl 0 rfl) ?_
          refine lv_iload_n hx hb zd_Law_law_430 rfl (lv_at hl 3 rfl) ?_
          refine lv_iconst (v := nI 1) hx hb zd_Law_law_431 (by decide) ?_
          refine lv_iadd hx hb zd_Law_law_432 ?_
          obtain ⟨v161, e162, h⟩ := zb_o h
          refine za_sld hx hb hX hI e162 zd_Law_law_433 ?_
          refine lv_aload_n hx hb zd_Law_law_434 rfl (lv_at hl 0 rfl) ?_
          refine lv_iload_n hx hb zd_Law_law_435 rfl (lv_at hl 3 rfl) ?_
          refine lv_iconst (v := nI 2) hx hb zd_Law_law_436 (by decide) ?_
          refine lv_iadd hx hb zd_Law_law_437 ?_
          obtain ⟨v163, e164, h⟩ := zb_o h
          refine za_sld hx hb hX hI e164 zd_Law_law_438 ?_
          obtain ⟨_, g165, h⟩ := zb_o h
          obtain ⟨⟨r166, σ167⟩, e168, h⟩ := zb_o h
          refine za_calli (za_runV hx hb hml hown hts hK hI g165 (zm_Mo_deliver e168) zj_Law_54 ⟨rfl, rfl⟩ ⟨Nat.le_of_ble_eq_true rfl, Nat.le_of_ble_eq_true rfl⟩ rfl hl.1 rfl (Nat.le_of_ble_eq_true rfl) zd_Law_law_439 ⟨by show _ + _ ≤ 727966; omega, by show _ + _ ≤ 6918349; omega⟩) hI (fun H locs hI => ?_)
          refine lv_icmp_eq hx hb (tgt := 678) zd_Law_law_442 (by decide) (fun c169 => ?_) (fun c169 => ?_)
          · replace h := zb_t c169 h
            exact B678 n _ ih _ _ _ _ (by omega) (by omega) ls a1 a2 x3 σ167 hI (lv_sub hl [0, 1, 2, 3] rfl) h
          · replace h := zb_f c169 h
            refine lv_iconst (v := nI 0) hx hb zd_Law_law_445 (by decide) ?_
            exact (za_no h).elim
        replace h := zb_f c152 h
        by_cases c170 : (v2 &&& (nI 15)) = (nI 7)
        · replace h := zb_t c170 h
          refine lv_tableIn hx hb (tgt := 447) zd_Law_law_43 (by rw [c170]; decide) (by rw [c170]; decide) (by rw [c170]; rfl) (by decide) ?_
          refine lv_aload_n hx hb zd_Law_law_447 rfl (lv_at hl 1 rfl) ?_
          obtain ⟨_, g171, h⟩ := zb_o h
          obtain ⟨⟨r172, σ173⟩, e174, h⟩ := zb_o h
          refine za_calli (za_runV hx hb hml hown hts hK hI g171 (zm_TL_envelopes e174) zj_Law_55 ⟨rfl, rfl⟩ ⟨Nat.le_of_ble_eq_true rfl, Nat.le_of_ble_eq_true rfl⟩ rfl hl.1 rfl (Nat.le_of_ble_eq_true rfl) zd_Law_law_448 ⟨by show _ + _ ≤ 727966; omega, by show _ + _ ≤ 6918349; omega⟩) hI (fun H locs hI => ?_)
          refine lv_aload_n hx hb zd_Law_law_451 rfl (lv_at hl 2 rfl) ?_
          obtain ⟨_, g175, h⟩ := zb_o h
          obtain ⟨⟨r176, σ177⟩, e178, h⟩ := zb_o h
          refine za_calli (za_runV hx hb hml hown hts hK hI g175 (zm_Mo_envelopes e178) zj_Law_59 ⟨rfl, rfl⟩ ⟨Nat.le_of_ble_eq_true rfl, Nat.le_of_ble_eq_true rfl⟩ rfl hl.1 rfl (Nat.le_of_ble_eq_true rfl) zd_Law_law_452 ⟨by show _ + _ ≤ 727966; omega, by show _ + _ ≤ 6918349; omega⟩) hI (fun H locs hI => ?_)
          refine lv_icmp_eq hx hb (tgt := 678) zd_Law_law_455 (by decide) (fun c179 => ?_) (fun c179 => ?_)
          · replace h := zb_t c179 h
            exact B678 n _ ih _ _ _ _ (by omega) (by omega) ls a1 a2 x3 σ177 hI (lv_sub hl [0, 1, 2, 3] rfl) h
          · replace h := zb_f c179 h
            refine lv_iconst (v := nI 0) hx hb zd_Law_law_458 (by decide) ?_
            exact (za_no h).elim
        replace h := zb_f c170 h
        by_cases c180 : (v2 &&& (nI 15)) = (nI 8)
        · replace h := zb_t c180 h
          refine lv_tableIn hx hb (tgt := 460) zd_Law_law_43 (by rw [c180]; decide) (by rw [c180]; decide) (by rw [c180]; rfl) (by decide) ?_
          refine lv_aload_n hx hb zd_Law_law_460 rfl (lv_at hl 1 rfl) ?_
          refine lv_aload_n hx hb zd_Law_law_461 rfl (lv_at hl 0 rfl) ?_
          refine lv_iload_n hx hb zd_Law_law_462 rfl (lv_at hl 3 rfl) ?_
          refine lv_iconst (v := nI 1) hx hb zd_Law_law_463 (by decide) ?_
          refine lv_iadd hx hb zd_Law_law_464 ?_
          obtain ⟨v181, e182, h⟩ := zb_o h
          refine za_sld hx hb hX hI e182 zd_Law_law_465 ?_
          refine lv_aload_n hx hb zd_Law_law_466 rfl (lv_at hl 0 rfl) ?_
          refine lv_iload_n hx hb zd_Law_law_467 rfl (lv_at hl 3 rfl) ?_
          refine lv_iconst (v := nI 2) hx hb zd_Law_law_468 (by decide) ?_
          refine lv_iadd hx hb zd_Law_law_469 ?_
          obtain ⟨v183, e184, h⟩ := zb_o h
          refine za_sld hx hb hX hI e184 zd_Law_law_470 ?_
          obtain ⟨_, g185, h⟩ := zb_o h
          obtain ⟨⟨r186, σ187⟩, e188, h⟩ := zb_o h
          refine za_calli (za_runV hx hb hml hown hts hK hI g185 (zm_TL_state e188) zj_Law_60 ⟨rfl, rfl⟩ ⟨Nat.le_of_ble_eq_true rfl, Nat.le_of_ble_eq_true rfl⟩ rfl hl.1 rfl (Nat.le_of_ble_eq_true rfl) zd_Law_law_471 ⟨by show _ + _ ≤ 727966; omega, by show _ + _ ≤ 6918349; omega⟩) hI (fun H locs hI => ?_)
          refine lv_aload_n hx hb zd_Law_law_474 rfl (lv_at hl 2 rfl) ?_
          refine lv_aload_n hx hb zd_Law_law_475 rfl (lv_at hl 0 rfl) ?_
          refine lv_iload_n hx hb zd_Law_law_476 rfl (lv_at hl 3 rfl) ?_
          refine lv_iconst (v := nI 1) hx hb zd_Law_law_477 (by decide) ?_
          refine lv_iadd hx hb zd_Law_law_478 ?_
          obtain ⟨v189, e190, h⟩ := zb_o h
          refine za_sld hx hb hX hI e190 zd_Law_law_479 ?_
          refine lv_aload_n hx hb zd_Law_law_480 rfl (lv_at hl 0 rfl) ?_
          refine lv_iload_n hx hb zd_Law_law_481 rfl (lv_at hl 3 rfl) ?_
          refine lv_iconst (v := nI 2) hx hb zd_Law_law_482 (by decide) ?_
          refine lv_iadd hx hb zd_Law_law_483 ?_
          obtain ⟨v191, e192, h⟩ := zb_o h
          refine za_sld hx hb hX hI e192 zd_Law_law_484 ?_
          obtain ⟨_, g193, h⟩ := zb_o h
          obtain ⟨⟨r194, σ195⟩, e196, h⟩ := zb_o h
          refine za_calli (za_runV hx hb hml hown hts hK hI g193 (zm_Mo_state e196) zj_Law_63 ⟨rfl, rfl⟩ ⟨Nat.le_of_ble_eq_true rfl, Nat.le_of_ble_eq_true rfl⟩ rfl hl.1 rfl (Nat.le_of_ble_eq_true rfl) zd_Law_law_485 ⟨by show _ + _ ≤ 727966; omega, by show _ + _ ≤ 6918349; omega⟩) hI (fun H locs hI => ?_)
          refine lv_icmp_eq hx hb (tgt := 678) zd_Law_law_488 (by decide) (fun c197 => ?_) (fun c197 => ?_)
          · replace h := zb_t c197 h
            exact B678 n _ ih _ _ _ _ (by omega) (by omega) ls a1 a2 x3 σ195 hI (lv_sub hl [0, 1, 2, 3] rfl) h
          · replace h := zb_f c197 h
            refine lv_iconst (v := nI 0) hx hb zd_Law_law_491 (by decide) ?_
            exact (za_no h).elim
        replace h := zb_f c180 h
        by_cases c198 : (v2 &&& (nI 15)) = (nI 9)
        · replace h := zb_t c198 h
          refine lv_tableIn hx hb (tgt := 493) zd_Law_law_43 (by rw [c198]; decide) (by rw [c198]; decide) (by rw [c198]; rfl) (by decide) ?_
          refine lv_aload_n hx hb zd_Law_law_493 rfl (lv_at hl 1 rfl) ?_
          refine lv_aload_n hx hb zd_Law_law_494 rfl (lv_at hl 0 rfl) ?_
          refine lv_iload_n hx hb zd_Law_law_495 rfl (lv_at hl 3 rfl) ?_
          refine lv_iconst (v := nI 1) hx hb zd_Law_law_496 (by decide) ?_
          refine lv_iadd hx hb zd_Law_law_497 ?_
          obtain ⟨v199, e200, h⟩ := zb_o h
          refine za_sld hx hb hX hI e200 zd_Law_law_498 ?_
          refine lv_aload_n hx hb zd_Law_law_499 rfl (lv_at hl 0 rfl) ?_
          refine lv_iload_n hx hb zd_Law_law_500 rfl (lv_at hl 3 rfl) ?_
          refine lv_iconst (v := nI 2) hx hb zd_Law_law_501 (by decide) ?_
          refine lv_iadd hx hb zd_Law_law_502 ?_
          obtain ⟨v201, e202, h⟩ := zb_o h
          refine za_sld hx hb hX hI e202 zd_Law_law_503 ?_
          refine lv_aload_n hx hb zd_Law_law_504 rfl (lv_at hl 0 rfl) ?_
          refine lv_iload_n hx hb zd_Law_law_505 rfl (lv_at hl 3 rfl) ?_
          refine lv_iconst (v := nI 3) hx hb zd_Law_law_506 (by decide) ?_
          refine lv_iadd hx hb zd_Law_law_507 ?_
          obtain ⟨v203, e204, h⟩ := zb_o h
          refine za_sld hx hb hX hI e204 zd_Law_law_508 ?_
          refine lv_aload_n hx hb zd_Law_law_509 rfl (lv_at hl 0 rfl) ?_
          refine lv_iload_n hx hb zd_Law_law_510 rfl (lv_at hl 3 rfl) ?_
          refine lv_iconst (v := nI 4) hx hb zd_Law_law_511 (by decide) ?_
          refine lv_iadd hx hb zd_Law_law_512 ?_
          obtain ⟨v205, e206, h⟩ := zb_o h
          refine za_sld hx hb hX hI e206 zd_Law_law_513 ?_
          obtain ⟨_, g207, h⟩ := zb_o h
          obtain ⟨⟨r208, σ209⟩, e210, h⟩ := zb_o h
          refine za_calli (za_runV hx hb hml hown hts hK hI g207 (zm_TL_statements e210) zj_Law_64 ⟨rfl, rfl⟩ ⟨Nat.le_of_ble_eq_true rfl, Nat.le_of_ble_eq_true rfl⟩ rfl hl.1 rfl (Nat.le_of_ble_eq_true rfl) zd_Law_law_514 ⟨by show _ + _ ≤ 727966; omega, by show _ + _ ≤ 6918349; omega⟩) hI (fun H locs hI => ?_)
          refine lv_aload_n hx hb zd_Law_law_517 rfl (lv_at hl 2 rfl) ?_
          refine lv_aload_n hx hb zd_Law_law_518 rfl (lv_at hl 0 rfl) ?_
          refine lv_iload_n hx hb zd_Law_law_519 rfl (lv_at hl 3 rfl) ?_
          refine lv_iconst (v := nI 1) hx hb zd_Law_law_520 (by decide) ?_
          refine lv_iadd hx hb zd_Law_law_521 ?_
          obtain ⟨v211, e212, h⟩ := zb_o h
          refine za_sld hx hb hX hI e212 zd_Law_law_522 ?_
          refine lv_aload_n hx hb zd_Law_law_523 rfl (lv_at hl 0 rfl) ?_
          refine lv_iload_n hx hb zd_Law_law_524 rfl (lv_at hl 3 rfl) ?_
          refine lv_iconst (v := nI 2) hx hb zd_Law_law_525 (by decide) ?_
          refine lv_iadd hx hb zd_Law_law_526 ?_
          obtain ⟨v213, e214, h⟩ := zb_o h
          refine za_sld hx hb hX hI e214 zd_Law_law_527 ?_
          refine lv_aload_n hx hb zd_Law_law_528 rfl (lv_at hl 0 rfl) ?_
          refine lv_iload_n hx hb zd_Law_law_529 rfl (lv_at hl 3 rfl) ?_
          refine lv_iconst (v := nI 3) hx hb zd_Law_law_530 (by decide) ?_
          refine lv_iadd hx hb zd_Law_law_531 ?_
          obtain ⟨v215, e216, h⟩ := zb_o h
          refine za_sld hx hb hX hI e216 zd_Law_law_532 ?_
          refine lv_aload_n hx hb zd_Law_law_533 rfl (lv_at hl 0 rfl) ?_
          refine lv_iload_n hx hb zd_Law_law_534 rfl (lv_at hl 3 rfl) ?_
          refine lv_iconst (v := nI 4) hx hb zd_Law_law_535 (by decide) ?_
          refine lv_iadd hx hb zd_Law_law_536 ?_
          obtain ⟨v217, e218, h⟩ := zb_o h
          refine za_sld hx hb hX hI e218 zd_Law_law_537 ?_
          obtain ⟨_, g219, h⟩ := zb_o h
          obtain ⟨⟨r220, σ221⟩, e222, h⟩ := zb_o h
          refine za_calli (za_runV hx hb hml hown hts hK hI g219 (zm_Mo_statements e222) zj_Law_68 ⟨rfl, rfl⟩ ⟨Nat.le_of_ble_eq_true rfl, Nat.le_of_ble_eq_true rfl⟩ rfl hl.1 rfl (Nat.le_of_ble_eq_true rfl) zd_Law_law_538 ⟨by show _ + _ ≤ 727966; omega, by show _ + _ ≤ 6918349; omega⟩) hI (fun H locs hI => ?_)
          refine lv_icmp_eq hx hb (tgt := 678) zd_Law_law_541 (by decide) (fun c223 => ?_) (fun c223 => ?_)
          · replace h := zb_t c223 h
            exact B678 n _ ih _ _ _ _ (by omega) (by omega) ls a1 a2 x3 σ221 hI (lv_sub hl [0, 1, 2, 3] rfl) h
          · replace h := zb_f c223 h
            refine lv_iconst (v := nI 0) hx hb zd_Law_law_544 (by decide) ?_
            exact (za_no h).elim
        replace h := zb_f c198 h
        by_cases c224 : (v2 &&& (nI 15)) = (nI 10)
        · replace h := zb_t c224 h
          refine lv_tableIn hx hb (tgt := 546) zd_Law_law_43 (by rw [c224]; decide) (by rw [c224]; decide) (by rw [c224]; rfl) (by decide) ?_
          refine lv_aload_n hx hb zd_Law_law_546 rfl (lv_at hl 1 rfl) ?_
          refine lv_aload_n hx hb zd_Law_law_547 rfl (lv_at hl 0 rfl) ?_
          refine lv_iload_n hx hb zd_Law_law_548 rfl (lv_at hl 3 rfl) ?_
          refine lv_iconst (v := nI 1) hx hb zd_Law_law_549 (by decide) ?_
          refine lv_iadd hx hb zd_Law_law_550 ?_
          obtain ⟨v225, e226, h⟩ := zb_o h
          refine za_sld hx hb hX hI e226 zd_Law_law_551 ?_
          refine lv_aload_n hx hb zd_Law_law_552 rfl (lv_at hl 0 rfl) ?_
          refine lv_iload_n hx hb zd_Law_law_553 rfl (lv_at hl 3 rfl) ?_
          refine lv_iconst (v := nI 2) hx hb zd_Law_law_554 (by decide) ?_
          refine lv_iadd hx hb zd_Law_law_555 ?_
          obtain ⟨v227, e228, h⟩ := zb_o h
          refine za_sld hx hb hX hI e228 zd_Law_law_556 ?_
          obtain ⟨_, g229, h⟩ := zb_o h
          obtain ⟨⟨r230, σ231⟩, e232, h⟩ := zb_o h
          refine za_calli (za_runV hx hb hml hown hts hK hI g229 (zm_TL_value e232) zj_Law_69 ⟨rfl, rfl⟩ ⟨Nat.le_of_ble_eq_true rfl, Nat.le_of_ble_eq_true rfl⟩ rfl hl.1 rfl (Nat.le_of_ble_eq_true rfl) zd_Law_law_557 ⟨by show _ + _ ≤ 727966; omega, by show _ + _ ≤ 6918349; omega⟩) hI (fun H locs hI => ?_)
          refine lv_aload_n hx hb zd_Law_law_560 rfl (lv_at hl 2 rfl) ?_
          refine lv_aload_n hx hb zd_Law_law_561 rfl (lv_at hl 0 rfl) ?_
          refine lv_iload_n hx hb zd_Law_law_562 rfl (lv_at hl 3 rfl) ?_
          refine lv_iconst (v := nI 1) hx hb zd_Law_law_563 (by decide) ?_
          refine lv_iadd hx hb zd_Law_law_564 ?_
          obtain ⟨v233, e234, h⟩ := zb_o h
          refine za_sld hx hb hX hI e234 zd_Law_law_565 ?_
          refine lv_aload_n hx hb zd_Law_law_566 rfl (lv_at hl 0 rfl) ?_
          refine lv_iload_n hx hb zd_Law_law_567 rfl (lv_at hl 3 rfl) ?_
          refine lv_iconst (v := nI 2) hx hb zd_Law_law_568 (by decide) ?_
          refine lv_iadd hx hb zd_Law_law_569 ?_
          obtain ⟨v235, e236, h⟩ := zb_o h
          refine za_sld hx hb hX hI e236 zd_Law_law_570 ?_
          obtain ⟨_, g237, h⟩ := zb_o h
          obtain ⟨⟨r238, σ239⟩, e240, h⟩ := zb_o h
          refine za_calli (za_runV hx hb hml hown hts hK hI g237 (zm_Mo_value e240) zj_Law_72 ⟨rfl, rfl⟩ ⟨Nat.le_of_ble_eq_true rfl, Nat.le_of_ble_eq_true rfl⟩ rfl hl.1 rfl (Nat.le_of_ble_eq_true rfl) zd_Law_law_571 ⟨by show _ + _ ≤ 727966; omega, by show _ + _ ≤ 6918349; omega⟩) hI (fun H locs hI => ?_)
          refine lv_icmp_eq hx hb (tgt := 678) zd_Law_law_574 (by decide) (fun c241 => ?_) (fun c241 => ?_)
          · replace h := zb_t c241 h
            exact B678 n _ ih _ _ _ _ (by omega) (by omega) ls a1 a2 x3 σ239 hI (lv_sub hl [0, 1, 2, 3] rfl) h
          · replace h := zb_f c241 h
            refine lv_iconst (v := nI 0) hx hb zd_Law_law_577 (by decide) ?_
            exact (za_no h).elim
        replace h := zb_f c224 h
        by_cases c242 : (v2 &&& (nI 15)) = (nI 11)
        · replace h := zb_t c242 h
          refine lv_tableIn hx hb (tgt := 579) zd_Law_law_43 (by rw [c242]; decide) (by rw [c242]; decide) (by rw [c242]; rfl) (by decide) ?_
          refine lv_aload_n hx hb zd_Law_law_579 rfl (lv_at hl 1 rfl) ?_
          refine lv_aload_n hx hb zd_Law_law_580 rfl (lv_at hl 0 rfl) ?_
          refine lv_iload_n hx hb zd_Law_law_581 rfl (lv_at hl 3 rfl) ?_
          refine lv_iconst (v := nI 1) hx hb zd_Law_law_582 (by decide) ?_
          refine lv_iadd hx hb zd_Law_law_583 ?_
          obtain ⟨v243, e244, h⟩ := zb_o h
          refine za_sld hx hb hX hI e244 zd_Law_law_584 ?_
          obtain ⟨_, g245, h⟩ := zb_o h
          obtain ⟨⟨r246, σ247⟩, e248, h⟩ := zb_o h
          refine za_calli (za_runV hx hb hml hown hts hK hI g245 (zm_TL_header e248) zj_Law_73 ⟨rfl, rfl⟩ ⟨Nat.le_of_ble_eq_true rfl, Nat.le_of_ble_eq_true rfl⟩ rfl hl.1 rfl (Nat.le_of_ble_eq_true rfl) zd_Law_law_585 ⟨by show _ + _ ≤ 727966; omega, by show _ + _ ≤ 6918349; omega⟩) hI (fun H locs hI => ?_)
          refine lv_aload_n hx hb zd_Law_law_588 rfl (lv_at hl 2 rfl) ?_
          refine lv_aload_n hx hb zd_Law_law_589 rfl (lv_at hl 0 rfl) ?_
          refine lv_iload_n hx hb zd_Law_law_590 rfl (lv_at hl 3 rfl) ?_
          refine lv_iconst (v := nI 1) hx hb zd_Law_law_591 (by decide) ?_
          refine lv_iadd hx hb zd_Law_law_592 ?_
          obtain ⟨v249, e250, h⟩ := zb_o h
          refine za_sld hx hb hX hI e250 zd_Law_law_593 ?_
          obtain ⟨_, g251, h⟩ := zb_o h
          obtain ⟨⟨r252, σ253⟩, e254, h⟩ := zb_o h
          refine za_calli (za_runV hx hb hml hown hts hK hI g251 (zm_Mo_header e254) zj_Law_77 ⟨rfl, rfl⟩ ⟨Nat.le_of_ble_eq_true rfl, Nat.le_of_ble_eq_true rfl⟩ rfl hl.1 rfl (Nat.le_of_ble_eq_true rfl) zd_Law_law_594 ⟨by show _ + _ ≤ 727966; omega, by show _ + _ ≤ 6918349; omega⟩) hI (fun H locs hI => ?_)
          refine lv_icmp_eq hx hb (tgt := 678) zd_Law_law_597 (by decide) (fun c255 => ?_) (fun c255 => ?_)
          · replace h := zb_t c255 h
            exact B678 n _ ih _ _ _ _ (by omega) (by omega) ls a1 a2 x3 σ253 hI (lv_sub hl [0, 1, 2, 3] rfl) h
          · replace h := zb_f c255 h
            refine lv_iconst (v := nI 0) hx hb zd_Law_law_600 (by decide) ?_
            exact (za_no h).elim
        replace h := zb_f c242 h
        by_cases c256 : (v2 &&& (nI 15)) = (nI 12)
        · replace h := zb_t c256 h
          refine lv_tableIn hx hb (tgt := 602) zd_Law_law_43 (by rw [c256]; decide) (by rw [c256]; decide) (by rw [c256]; rfl) (by decide) ?_
          refine lv_aload_n hx hb zd_Law_law_602 rfl (lv_at hl 1 rfl) ?_
          refine lv_aload_n hx hb zd_Law_law_603 rfl (lv_at hl 0 rfl) ?_
          refine lv_iload_n hx hb zd_Law_law_604 rfl (lv_at hl 3 rfl) ?_
          refine lv_iconst (v := nI 1) hx hb zd_Law_law_605 (by decide) ?_
          refine lv_iadd hx hb zd_Law_law_606 ?_
          obtain ⟨v257, e258, h⟩ := zb_o h
          refine za_sld hx hb hX hI e258 zd_Law_law_607 ?_
          refine lv_aload_n hx hb zd_Law_law_608 rfl (lv_at hl 0 rfl) ?_
          refine lv_iload_n hx hb zd_Law_law_609 rfl (lv_at hl 3 rfl) ?_
          refine lv_iconst (v := nI 2) hx hb zd_Law_law_610 (by decide) ?_
          refine lv_iadd hx hb zd_Law_law_611 ?_
          obtain ⟨v259, e260, h⟩ := zb_o h
          refine za_sld hx hb hX hI e260 zd_Law_law_612 ?_
          refine lv_aload_n hx hb zd_Law_law_613 rfl (lv_at hl 0 rfl) ?_
          refine lv_iload_n hx hb zd_Law_law_614 rfl (lv_at hl 3 rfl) ?_
          refine lv_iconst (v := nI 3) hx hb zd_Law_law_615 (by decide) ?_
          refine lv_iadd hx hb zd_Law_law_616 ?_
          obtain ⟨v261, e262, h⟩ := zb_o h
          refine za_sld hx hb hX hI e262 zd_Law_law_617 ?_
          obtain ⟨_, g263, h⟩ := zb_o h
          obtain ⟨⟨r264, σ265⟩, e266, h⟩ := zb_o h
          refine za_calli (za_runV hx hb hml hown hts hK hI g263 (zm_TL_balance e266) zj_Law_78 ⟨rfl, rfl⟩ ⟨Nat.le_of_ble_eq_true rfl, Nat.le_of_ble_eq_true rfl⟩ rfl hl.1 rfl (Nat.le_of_ble_eq_true rfl) zd_Law_law_618 ⟨by show _ + _ ≤ 727966; omega, by show _ + _ ≤ 6918349; omega⟩) hI (fun H locs hI => ?_)
          refine lv_aload_n hx hb zd_Law_law_621 rfl (lv_at hl 2 rfl) ?_
          refine lv_aload_n hx hb zd_Law_law_622 rfl (lv_at hl 0 rfl) ?_
          refine lv_iload_n hx hb zd_Law_law_623 rfl (lv_at hl 3 rfl) ?_
          refine lv_iconst (v := nI 1) hx hb zd_Law_law_624 (by decide) ?_
          refine lv_iadd hx hb zd_Law_law_625 ?_
          obtain ⟨v267, e268, h⟩ := zb_o h
          refine za_sld hx hb hX hI e268 zd_Law_law_626 ?_
          refine lv_aload_n hx hb zd_Law_law_627 rfl (lv_at hl 0 rfl) ?_
          refine lv_iload_n hx hb zd_Law_law_628 rfl (lv_at hl 3 rfl) ?_
          refine lv_iconst (v := nI 2) hx hb zd_Law_law_629 (by decide) ?_
          refine lv_iadd hx hb zd_Law_law_630 ?_
          obtain ⟨v269, e270, h⟩ := zb_o h
          refine za_sld hx hb hX hI e270 zd_Law_law_631 ?_
          refine lv_aload_n hx hb zd_Law_law_632 rfl (lv_at hl 0 rfl) ?_
          refine lv_iload_n hx hb zd_Law_law_633 rfl (lv_at hl 3 rfl) ?_
          refine lv_iconst (v := nI 3) hx hb zd_Law_law_634 (by decide) ?_
          refine lv_iadd hx hb zd_Law_law_635 ?_
          obtain ⟨v271, e272, h⟩ := zb_o h
          refine za_sld hx hb hX hI e272 zd_Law_law_636 ?_
          obtain ⟨_, g273, h⟩ := zb_o h
          obtain ⟨⟨r274, σ275⟩, e276, h⟩ := zb_o h
          refine za_calli (za_runV hx hb hml hown hts hK hI g273 (zm_Mo_balance e276) zj_Law_82 ⟨rfl, rfl⟩ ⟨Nat.le_of_ble_eq_true rfl, Nat.le_of_ble_eq_true rfl⟩ rfl hl.1 rfl (Nat.le_of_ble_eq_true rfl) zd_Law_law_637 ⟨by show _ + _ ≤ 727966; omega, by show _ + _ ≤ 6918349; omega⟩) hI (fun H locs hI => ?_)
          refine lv_icmp_eq hx hb (tgt := 678) zd_Law_law_640 (by decide) (fun c277 => ?_) (fun c277 => ?_)
          · replace h := zb_t c277 h
            exact B678 n _ ih _ _ _ _ (by omega) (by omega) ls a1 a2 x3 σ275 hI (lv_sub hl [0, 1, 2, 3] rfl) h
          · replace h := zb_f c277 h
            refine lv_iconst (v := nI 0) hx hb zd_Law_law_643 (by decide) ?_
            exact (za_no h).elim
        replace h := zb_f c256 h
        by_cases c278 : (v2 &&& (nI 15)) = (nI 13)
        · replace h := zb_t c278 h
          refine lv_tableIn hx hb (tgt := 645) zd_Law_law_43 (by rw [c278]; decide) (by rw [c278]; decide) (by rw [c278]; rfl) (by decide) ?_
          refine lv_aload_n hx hb zd_Law_law_645 rfl (lv_at hl 1 rfl) ?_
          refine lv_aload_n hx hb zd_Law_law_646 rfl (lv_at hl 0 rfl) ?_
          refine lv_iload_n hx hb zd_Law_law_647 rfl (lv_at hl 3 rfl) ?_
          refine lv_iconst (v := nI 1) hx hb zd_Law_law_648 (by decide) ?_
          refine lv_iadd hx hb zd_Law_law_649 ?_
          obtain ⟨v279, e280, h⟩ := zb_o h
          refine za_sld hx hb hX hI e280 zd_Law_law_650 ?_
          refine lv_aload_n hx hb zd_Law_law_651 rfl (lv_at hl 0 rfl) ?_
          refine lv_iload_n hx hb zd_Law_law_652 rfl (lv_at hl 3 rfl) ?_
          refine lv_iconst (v := nI 2) hx hb zd_Law_law_653 (by decide) ?_
          refine lv_iadd hx hb zd_Law_law_654 ?_
          obtain ⟨v281, e282, h⟩ := zb_o h
          refine za_sld hx hb hX hI e282 zd_Law_law_655 ?_
          obtain ⟨_, g283, h⟩ := zb_o h
          obtain ⟨⟨r284, σ285⟩, e286, h⟩ := zb_o h
          refine za_calli (za_runV hx hb hml hown hts hK hI g283 (zm_TL_offer e286) zj_Law_83 ⟨rfl, rfl⟩ ⟨Nat.le_of_ble_eq_true rfl, Nat.le_of_ble_eq_true rfl⟩ rfl hl.1 rfl (Nat.le_of_ble_eq_true rfl) zd_Law_law_656 ⟨by show _ + _ ≤ 727966; omega, by show _ + _ ≤ 6918349; omega⟩) hI (fun H locs hI => ?_)
          refine lv_aload_n hx hb zd_Law_law_659 rfl (lv_at hl 2 rfl) ?_
          refine lv_aload_n hx hb zd_Law_law_660 rfl (lv_at hl 0 rfl) ?_
          refine lv_iload_n hx hb zd_Law_law_661 rfl (lv_at hl 3 rfl) ?_
          refine lv_iconst (v := nI 1) hx hb zd_Law_law_662 (by decide) ?_
          refine lv_iadd hx hb zd_Law_law_663 ?_
          obtain ⟨v287, e288, h⟩ := zb_o h
          refine za_sld hx hb hX hI e288 zd_Law_law_664 ?_
          refine lv_aload_n hx hb zd_Law_law_665 rfl (lv_at hl 0 rfl) ?_
          refine lv_iload_n hx hb zd_Law_law_666 rfl (lv_at hl 3 rfl) ?_
          refine lv_iconst (v := nI 2) hx hb zd_Law_law_667 (by decide) ?_
          refine lv_iadd hx hb zd_Law_law_668 ?_
          obtain ⟨v289, e290, h⟩ := zb_o h
          refine za_sld hx hb hX hI e290 zd_Law_law_669 ?_
          obtain ⟨_, g291, h⟩ := zb_o h
          obtain ⟨⟨r292, σ293⟩, e294, h⟩ := zb_o h
          refine za_calli (za_runV hx hb hml hown hts hK hI g291 (zm_Mo_offer e294) zj_Law_86 ⟨rfl, rfl⟩ ⟨Nat.le_of_ble_eq_true rfl, Nat.le_of_ble_eq_true rfl⟩ rfl hl.1 rfl (Nat.le_of_ble_eq_true rfl) zd_Law_law_670 ⟨by show _ + _ ≤ 727966; omega, by show _ + _ ≤ 6918349; omega⟩) hI (fun H locs hI => ?_)
          refine lv_icmp_eq hx hb (tgt := 678) zd_Law_law_673 (by decide) (fun c295 => ?_) (fun c295 => ?_)
          · replace h := zb_t c295 h
            exact B678 n _ ih _ _ _ _ (by omega) (by omega) ls a1 a2 x3 σ293 hI (lv_sub hl [0, 1, 2, 3] rfl) h
          · replace h := zb_f c295 h
            refine lv_iconst (v := nI 0) hx hb zd_Law_law_676 (by decide) ?_
            exact (za_no h).elim
        replace h := zb_f c278 h
        refine lv_tableOut hx hb (tgt := 678) zd_Law_law_43 (za_sw 0 13 (by decide) (by intro k h1 h2; rcases (show k = 0 ∨ k = 1 ∨ k = 2 ∨ k = 3 ∨ k = 4 ∨ k = 5 ∨ k = 6 ∨ k = 7 ∨ k = 8 ∨ k = 9 ∨ k = 10 ∨ k = 11 ∨ k = 12 ∨ k = 13 by omega) with rfl | rfl | rfl | rfl | rfl | rfl | rfl | rfl | rfl | rfl | rfl | rfl | rfl | rfl <;> assumption)) (by decide) ?_
        exact B678 n _ ih _ _ _ _ (by omega) (by omega) ls a1 a2 x3 σ hI (lv_sub hl [0, 1, 2, 3] rfl) h
  unfold zf_Law_law at h
  refine za_new hx hb hts hown hK hI zw_Law_7 (Nat.le_of_ble_eq_true rfl) (Nat.le_of_ble_eq_true rfl) zd_Law_law_0 (fun H hI => ?_)
  refine lv_dup hx hb zd_Law_law_3 rfl ?_
  refine lv_aload_n hx hb zd_Law_law_4 rfl (lv_at hl 0 rfl) ?_
  refine lv_iconst (v := nI 0) hx hb zd_Law_law_5 (by decide) ?_
  obtain ⟨⟨r1, σ2⟩, e3, h⟩ := zb_o h
  refine za_calli (za_runSX hx hb hml hown hts hK hI hX (zm_Law_cell e3) zj_Law_9 ⟨rfl, rfl⟩ ⟨Nat.le_of_ble_eq_true rfl, Nat.le_of_ble_eq_true rfl⟩ rfl hl.1 rfl (Nat.le_of_ble_eq_true rfl) zd_Law_law_6 ⟨Nat.le_of_ble_eq_true rfl, Nat.le_of_ble_eq_true rfl⟩) hI (fun H locs hI => ?_)
  obtain ⟨⟨r4, σ5⟩, e6, h⟩ := zb_o h
  refine za_callv (za_runI hx hb hml hown hts hK hI (zm_TL_init e6) zj_Law_15 ⟨rfl, rfl⟩ ⟨Nat.le_of_ble_eq_true rfl, Nat.le_of_ble_eq_true rfl⟩ rfl hl.1 rfl (Nat.le_of_ble_eq_true rfl) zd_Law_law_9 ⟨Nat.le_of_ble_eq_true rfl, Nat.le_of_ble_eq_true rfl⟩) hI (fun H locs hI => ?_)
  refine lv_astore_n (lv' := [(1, .ref σ.2), (0, .ref sb)]) hx hb zd_Law_law_12 rfl hl (Nat.le_of_ble_eq_true rfl) rfl (fun ls hl => ?_)
  refine za_new hx hb hts hown hK hI zw_Law_18 (Nat.le_of_ble_eq_true rfl) (Nat.le_of_ble_eq_true rfl) zd_Law_law_13 (fun H hI => ?_)
  refine lv_dup hx hb zd_Law_law_16 rfl ?_
  refine lv_aload_n hx hb zd_Law_law_17 rfl (lv_at hl 1 rfl) ?_
  refine lv_iconst (v := nI 0) hx hb zd_Law_law_18 (by decide) ?_
  obtain ⟨⟨r7, σ8⟩, e9, h⟩ := zb_o h
  refine za_calli (za_runSX hx hb hml hown hts hK hI hX (zm_Law_cell e9) zj_Law_9 ⟨rfl, rfl⟩ ⟨Nat.le_of_ble_eq_true rfl, Nat.le_of_ble_eq_true rfl⟩ rfl hl.1 rfl (Nat.le_of_ble_eq_true rfl) zd_Law_law_19 ⟨Nat.le_of_ble_eq_true rfl, Nat.le_of_ble_eq_true rfl⟩) hI (fun H locs hI => ?_)
  obtain ⟨⟨r10, σ11⟩, e12, h⟩ := zb_o h
  refine za_callv (za_runI hx hb hml hown hts hK hI (zm_Mo_init e12) zj_Law_20 ⟨rfl, rfl⟩ ⟨Nat.le_of_ble_eq_true rfl, Nat.le_of_ble_eq_true rfl⟩ rfl hl.1 rfl (Nat.le_of_ble_eq_true rfl) zd_Law_law_22 ⟨Nat.le_of_ble_eq_true rfl, Nat.le_of_ble_eq_true rfl⟩) hI (fun H locs hI => ?_)
  refine lv_astore_n (lv' := [(2, .ref σ5.2), (1, .ref σ.2), (0, .ref sb)]) hx hb zd_Law_law_25 rfl hl (Nat.le_of_ble_eq_true rfl) rfl (fun ls hl => ?_)
  refine lv_iconst (v := nI 1) hx hb zd_Law_law_26 (by decide) ?_
  refine lv_istore_n (lv' := [(3, .int (nI 1)), (2, .ref σ5.2), (1, .ref σ.2), (0, .ref sb)]) hx hb zd_Law_law_27 rfl hl (Nat.le_of_ble_eq_true rfl) rfl (fun ls hl => ?_)
  exact B28 513 _ _ _ _ (by omega) (by omega) ls σ.2 σ5.2 (nI 1) σ11 hI (lv_sub hl [3, 2, 1, 0] rfl) h
