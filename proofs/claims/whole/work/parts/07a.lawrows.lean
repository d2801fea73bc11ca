/-! The law's own rows: the script, and the start. -/
def zs_ld (sL : Nat) (sx : Nat → Int32) (i : Int32) : Option Int32 := if ¬ (i < 0 ∨ sL ≤ i.toNatClampNeg) then some (sx i.toNatClampNeg) else none
def za_X0 (n0 sb sL : Nat) (sx : Nat → Int32) (s : State) : Prop := va_X sb sL sx s s.heap ∧ sb < s.heap.size ∧ sb < n0
def za_PX (D : va_G) (ca : Nat → ClassId) (n0 : Nat) (As : List Value) (σ : za_h) (sb sL : Nat) (sx : Nat → Int32) : Array Value → State → Prop := va_Pc As (fun U => (za_R D ca n0 σ U.heap ∧ za_K D ca U) ∧ za_X0 n0 sb sL sx U)
section ZX
variable {p : Program} {l : Launch} {e : Env} {R : Room} {s : State} {m : MethodId} {args : Array Value} {below : List Frame} {meth : Method} {c : Code} {H : Heap} {locs : List Loc} {cells slots : Nat} {Q : State → Prop}
variable {cc : ByteArray} {pc : Nat} {ls : Array Slot} {rest : List Value} {D : va_G} {ca : Nat → ClassId} {n0 : Nat} {σ σ1 : za_h} {a : Nat} {own : String} {sb sL : Nat} {sx : Nat → Int32}
theorem za_sld (hx : p.tables.exec = Jvm.exec) (hb : c.code = cc) (hX : za_X0 n0 sb sL sx s) (hI : za_I D ca n0 s σ H locs) {i v : Int32} (hg : zs_ld sL sx i = some v) (hdg : decode cc pc = .ok (.iaload, 1))
    (kk : W p l e R s m args below meth c H locs cells slots Q (F0 m (pc + 1) ls (.int v :: rest))) : W p l e R s m args below meth c H locs cells slots Q (F0 m pc ls (.int i :: .ref sb :: rest)) := by
  unfold zs_ld at hg
  obtain ⟨hin, h1⟩ := zb_g hg
  cases h1
  exact va_sld hx hb hX.1 hX.2.1 (Nat.not_le.mpr hX.2.2) hI.2 hin hdg kk
theorem za_slen (hx : p.tables.exec = Jvm.exec) (hb : c.code = cc) (hX : za_X0 n0 sb sL sx s) (hI : za_I D ca n0 s σ H locs) (hdg : decode cc pc = .ok (.arraylength, 1))
    (kk : W p l e R s m args below meth c H locs cells slots Q (F0 m (pc + 1) ls (.int (nI sL) :: rest))) : W p l e R s m args below meth c H locs cells slots Q (F0 m pc ls (.ref sb :: rest)) :=
  va_slen hx hb hX.1 hX.2.1 (Nat.not_le.mpr hX.2.2) hI.2 hdg kk
theorem za_blindX {As : List Value} : FrameBlind (za_PX D ca n0 As σ sb sL sx) := by
  intro x U g mk h
  exact ⟨h.1, ⟨h.2.1.1, h.2.1.2.same rfl⟩, va_X.moved (u := U) (U := U.calling g mk x) (Vm.Alike.refl U.vm) h.2.2.1, h.2.2.2⟩
theorem za_runSX {y : MethodName} {bytes : ByteArray} {maxL nL mc ms n index : Nat} {ret : Option FieldType} {rm : Room} {Qc : Array Value → State → Outcome → State → Prop} {As : List Value} {st0 : List Value} (hx : p.tables.exec = Jvm.exec) (hb : c.code = cc) (hml : c.maxLocals = nL) (hown : s.vm.findClass own = some m.cls) (hts : ∀ w ∈ za_ws, w.before args s = true) (hK : za_K D ca s) (hI : za_I D ca n0 s σ H locs) (hX : za_X0 n0 sb sL sx s)
    (hM : Met l y (za_wy y bytes maxL ret) rm (za_PX D ca n0 As σ sb sL sx) Qc mc ms (za_A n0)) (md : za_mS own index y bytes maxL ret n) (hrm : rm.cells = mc ∧ rm.slots = ms) (hR : rm.frames + 1 ≤ R.frames ∧ 8 + (maxL + 11) + rm.locals ≤ R.locals) (hn : As.length = n) (hsize : ls.size = nL) (hst : st0 = As.reverse ++ rest) (hW : (rest.map fun v => v.category).sum ≤ 8) (hdg : decode cc pc = .ok (.invokestatic index, 3)) (hf : cells + mc ≤ R.cells ∧ slots + ms ≤ R.slots) :
    va_Run p l e R s m args below meth c H locs cells slots mc ms (F0 m pc ls st0) rest (Qc As.toArray) (za_A n0) := by
  obtain ⟨⟨h1, h2, h3, h4⟩, h5⟩ := md
  have hXH : va_X sb sL sx s H := hX.1.kept (hI.2.2.1 sb hX.2.1 (Nat.not_le.mpr hX.2.2))
  have hp : PreS s H (za_PX D ca n0 As σ sb sL sx) As := ⟨za_blindX, fun U hU hW => ⟨rfl, ⟨by rw [hU]; exact hI.1, hK.warm hW⟩, by rw [hU]; exact va_X.moved hW.alike hXH, by rw [hU]; exact Nat.lt_of_lt_of_le hX.2.1 hI.2.1, hX.2.2⟩⟩
  rcases h4 with h4 | ⟨host, h4⟩
  · exact va_runS ⟨hx, hb, hml, hown, hts⟩ hM ⟨callB_of n hts (za_good h1) rfl hrm.1 hrm.2 (hts _ h2) (hts _ h4) h3 hR, hts _ h5⟩ hp rfl hn hsize hst (lv_room hW) hdg hf
  · exact va_runSN ⟨hx, hb, hml, hown, hts⟩ hM ⟨va_cnB n hts (za_good h1) rfl hrm.1 hrm.2 (hK.2.1 _ h4 rfl) (hts _ h2) h3 hR, hts _ h5, trivial⟩ hp rfl hn hsize hst (lv_room hW) hdg hf
end ZX
theorem za_metX {l : Launch} {y : MethodName} {bytes : ByteArray} {maxL mc ms n0 : Nat} {ret : Option FieldType} {rm : Room} {D : va_G} {ca : Nat → ClassId} {Qc : Array Value → State → Outcome → State → Prop} {As : List Value} {σ : za_h} {sb sL : Nat} {sx : Nat → Int32} (hy : plainName y.cls = true) (hlen : (lg_sl As).length ≤ maxL)
    (body : ∀ (p : Program) (e : Env) (s : State) (m : MethodId) (below : List Frame) (meth : Method) (c : Code) (ls : Array Slot), p.tables.exec = Jvm.exec → c.code = bytes → c.maxLocals = maxL → meth.sig.returnType = ret → meth.locks = false → (∀ w ∈ za_ws, w.before As.toArray s = true) → s.vm.findClass y.cls = some m.cls → meth.name = y.name → za_K D ca s → za_X0 n0 sb sL sx s → za_I D ca n0 s σ s.heap [] → lv_has ls maxL (lv_args 0 As) →
      W p l e rm s m As.toArray below meth c s.heap [] 0 0 (MQ below Qc As.toArray s mc ms (za_A n0)) (F0 m 0 ls [])) : Met l y (za_wy y bytes maxL ret) rm (za_PX D ca n0 As σ sb sL sx) Qc mc ms (za_A n0) := by
  refine Met.ofW (cc := bytes) (maxL := maxL) (ret := ret) hy rfl ?_
  intro p e s m args below meth c s₁ B hml hv
  obtain ⟨rfl, ⟨hR0, hK⟩, hX⟩ := hv
  have hts := atoms_spec (ws := za_wy y bytes maxL ret) B.pre
  have hl := lv_entry As (n := maxL) hlen
  rw [lg_entry_eq]
  exact body p e s m below meth c _ B.exec B.bytes hml B.returns B.notSynchronized (fun w hw => hts w (List.mem_cons_of_mem _ hw)) (findClass_of_methodNamed B.named) (name_of_methodNamed B.named B.method).1 hK hX ⟨hR0, va_S.rf⟩ hl
/-- the start: the classes and array classes as the tables have them -/
theorem za_start {s : State} {args : Array Value} (hts : ∀ w ∈ lw_tbl, w.before args s = true) : ∃ (D : va_G) (ca : Nat → ClassId), za_K D ca s := by
  have h1 : ∀ (c : Nat) (q : vw_C), vwCl[c]? = some q → ∃ (cC : ClassId) (iS : Nat → Nat), u_Kn s q.1 q.2.1 q.2.2 cC iS := by
    intro c q hq
    have hw : (∀ w ∈ u_ws q.1 q.2.1 q.2.2, w ∈ za_ws) ∧ Cond.instantiable q.1 q.2.2 ∈ za_ws := by
      have hm := List.mem_of_getElem? hq
      simp only [vwCl, List.mem_cons, List.not_mem_nil, or_false] at hm
      rcases hm with rfl | rfl | rfl | rfl | rfl | rfl | rfl | rfl | rfl | rfl | rfl
      · exact ⟨zi_TL, zu_0⟩
      · exact ⟨zi_Agreement, zu_1⟩
      · exact ⟨zi_Envelope, zu_2⟩
      · exact ⟨zi_Ledger, zu_3⟩
      · exact ⟨zi_Node, zu_4⟩
      · exact ⟨zi_Offer, zu_5⟩
      · exact ⟨zi_Quorums, zu_6⟩
      · exact ⟨zi_Statements, zu_7⟩
      · exact ⟨zi_Transaction, zu_8⟩
      · exact ⟨zi_Trust, zu_9⟩
      · exact ⟨zi_Mo, zu_10⟩
    exact u_known (ws := za_ws) (fun w h => hts w (List.mem_filter.mp h).1) hw.1 (hts _ (List.mem_filter.mp hw.2).1)
  have h2 : ∀ (t : Nat) (ty : FieldType), za_tys[t]? = some ty → ∃ cA : ClassId, ArrOfT s cA ty ∧ va_RA s cA ty := by
    intro t ty ht
    have hm := List.mem_of_getElem? ht
    simp only [za_tys, List.mem_cons, List.not_mem_nil, or_false] at hm
    have prim : ∀ ty : FieldType, (∀ C, ty ≠ .object C) → Cond.arrayClass ty ∈ za_ws → ∃ cA : ClassId, ArrOfT s cA ty ∧ va_RA s cA ty := by
      intro ty hne hw
      obtain ⟨cA, kA, comp, g1, g2, g3⟩ := Cond.arrayClass_spec (hts _ (List.mem_filter.mp hw).1)
      refine ⟨cA, fun n z => ⟨fun k h => (by cases h), kA, g2, comp, g3⟩, ?_⟩
      cases ty <;> first | exact absurd rfl (hne _) | exact g1
    have obj : ∀ C : String, Cond.arrayOver (.object C) ∈ lw_tbl → ∃ cA : ClassId, ArrOfT s cA (.object C) ∧ va_RA s cA (.object C) := by
      intro C hw
      obtain ⟨comp, cA, kA, g1, -, g2, g3, g4⟩ := Cond.arrayOver_spec (hts _ hw)
      exact ⟨cA, fun n z => ⟨fun k h => (by cases h), kA, g2, comp, g3⟩, kA, comp, g2, g3, g1, g4⟩
    rcases hm with rfl | rfl | rfl | rfl | rfl | rfl | rfl | rfl
    · exact prim _ (fun C h => by cases h) zv_0
    · exact prim _ (fun C h => by cases h) zv_1
    · exact obj _ zv_2
    · exact obj _ zv_3
    · exact obj _ zv_4
    · exact obj _ zv_5
    · exact obj _ zv_6
    · exact obj _ zv_7
  have c1 : ∀ c : Nat, ∃ z : ClassId × (Nat → Nat), ∀ q, vwCl[c]? = some q → u_Kn s q.1 q.2.1 q.2.2 z.1 z.2 := by
    intro c
    cases hq : vwCl[c]? with
    | none => exact ⟨(0, fun _ => 0), fun q h => by cases h⟩
    | some q =>
      obtain ⟨x, y, h⟩ := h1 c q hq
      exact ⟨(x, y), fun q' h' => by cases h'; exact h⟩
  have c2 : ∀ t : Nat, ∃ cA : ClassId, ∀ ty, za_tys[t]? = some ty → ArrOfT s cA ty ∧ va_RA s cA ty := by
    intro t
    cases hq : za_tys[t]? with
    | none => exact ⟨0, fun q h => by cases h⟩
    | some ty =>
      obtain ⟨x, h⟩ := h2 t ty hq
      exact ⟨x, fun q' h' => by cases h'; exact h⟩
  refine ⟨(fun c => (Classical.choose (c1 c)).1, fun c => (Classical.choose (c1 c)).2), fun t => Classical.choose (c2 t), ⟨⟨fun c q hq => Classical.choose_spec (c1 c) q hq, fun k q hk => ?_⟩, fun w hw hn => ?_, fun t C ht => ?_⟩⟩
  · have hk' : (za_tys[k]?).map (fun ty => (Classical.choose (c2 k), ty)) = some q := by
      simpa [za_T, List.getElem?_mapIdx] using hk
    obtain ⟨ty, ht, rfl⟩ := Option.map_eq_some_iff.mp hk'
    exact Classical.choose_spec (c2 k) ty ht
  · exact va_Nw.of (by cases w <;> first | rfl | (simp [za_nest] at hn; done)) (hts w hw)
  · have hm := List.mem_of_getElem? ht
    have ao : ∀ C : String, Cond.arrayOver (.object C) ∈ lw_tbl → va_AO C s := fun C hw => va_AO.of (hts _ hw)
    simp only [za_tys, List.mem_cons, List.not_mem_nil, or_false] at hm
    rcases hm with h | h | h | h | h | h | h | h
    · cases h
    · cases h
    · cases h; exact ao _ zv_2
    · cases h; exact ao _ zv_3
    · cases h; exact ao _ zv_4
    · cases h; exact ao _ zv_5
    · cases h; exact ao _ zv_6
    · cases h; exact ao _ zv_7
theorem za_no {σ σ' : za_h} (h : some (nI 0, σ) = some (nI 1, σ')) : False := by
  have h1 : nI 0 = nI 1 := congrArg Prod.fst (Option.some.inj h)
  exact absurd h1 (by decide)
