/-! The heap as this proof sees it: a partial map from addresses to cells, and the next free address; rows of the machine over it. -/
abbrev za_c : Type := (Nat × Nat × ((Nat → Int32) ⊕ (Nat → Option Nat))) ⊕ (Nat × List Value)
abbrev za_h : Type := (Nat → Option za_c) × Nat
def za_up (f : Nat → Option za_c) (a : Nat) (x : za_c) : Nat → Option za_c := fun q => if q = a then some x else f q
def za_w (σ : za_h) (a : Nat) (x : za_c) : za_h := (za_up σ.1 a x, σ.2)
def za_n (σ : za_h) (x : za_c) : za_h := (za_up σ.1 σ.2 x, σ.2 + 1)
def zg_f (σ : za_h) (a ci k : Nat) : Option Value := match σ.1 a with
  | some (.inr (c, fs)) => if c = ci then fs[k]? else none
  | _ => none
def zg_i (σ : za_h) (a ci k : Nat) : Option Int32 := match zg_f σ a ci k with
  | some (.int x) => some x
  | _ => none
def zg_r (σ : za_h) (a ci k : Nat) : Option Nat := match zg_f σ a ci k with
  | some (.ref b) => some b
  | _ => none
def zg_c (σ : za_h) (a ci : Nat) : Option Unit := match σ.1 a with
  | some (.inr (c, _)) => if c = ci then some () else none
  | _ => none
def zp_f (σ : za_h) (a ci k : Nat) (v : Value) : Option za_h := match σ.1 a with
  | some (.inr (c, fs)) => if c = ci ∧ k < fs.length then some (za_w σ a (.inr (c, fs.set k v))) else none
  | _ => none
def za_ld (σ : za_h) (a t : Nat) (i : Int32) : Option Int32 := match σ.1 a with
  | some (.inl (u, n, .inl f)) => if u = t ∧ ¬ (i < 0 ∨ n ≤ i.toNatClampNeg) then some (f i.toNatClampNeg) else none
  | _ => none
def za_st (σ : za_h) (a t : Nat) (i x : Int32) : Option za_h := match σ.1 a with
  | some (.inl (u, n, .inl f)) => if u = t ∧ ¬ (i < 0 ∨ n ≤ i.toNatClampNeg) then some (za_w σ a (.inl (u, n, .inl (upd f i.toNatClampNeg x)))) else none
  | _ => none
def za_lq (σ : za_h) (a t : Nat) (i : Int32) : Option (Option Nat) := match σ.1 a with
  | some (.inl (u, n, .inr f)) => if u = t ∧ ¬ (i < 0 ∨ n ≤ i.toNatClampNeg) then some (f i.toNatClampNeg) else none
  | _ => none
def za_ln (σ : za_h) (a t : Nat) (i : Int32) : Option Nat := match za_lq σ a t i with
  | some (some b) => some b
  | _ => none
def za_sq (σ : za_h) (a t ci : Nat) (i : Int32) (o : Option Nat) : Option za_h := match σ.1 a with
  | some (.inl (u, n, .inr f)) => if u = t ∧ ¬ (i < 0 ∨ n ≤ i.toNatClampNeg) ∧ (o.all fun v => (zg_c σ v ci).isSome) = true then some (za_w σ a (.inl (u, n, .inr (va_up f i.toNatClampNeg o)))) else none
  | _ => none

theorem zg_f_s {σ : za_h} {a ci k : Nat} {v : Value} (h : zg_f σ a ci k = some v) : ∃ fs, σ.1 a = some (.inr (ci, fs)) ∧ fs[k]? = some v := by
  unfold zg_f at h
  split at h
  · rename_i c fs e
    split at h
    · rename_i hc; subst hc; exact ⟨fs, e, h⟩
    · cases h
  · cases h
theorem zg_i_s {σ : za_h} {a ci k : Nat} {x : Int32} (h : zg_i σ a ci k = some x) : zg_f σ a ci k = some (.int x) := by
  unfold zg_i at h
  split at h
  · rename_i y e; cases h; exact e
  · cases h
theorem zg_r_s {σ : za_h} {a ci k : Nat} {b : Nat} (h : zg_r σ a ci k = some b) : zg_f σ a ci k = some (.ref b) := by
  unfold zg_r at h
  split at h
  · rename_i y e; cases h; exact e
  · cases h
theorem zg_c_s {σ : za_h} {a ci : Nat} {u : Unit} (h : zg_c σ a ci = some u) : ∃ fs, σ.1 a = some (.inr (ci, fs)) := by
  unfold zg_c at h
  split at h
  · rename_i c fs e
    split at h
    · rename_i hc; subst hc; exact ⟨fs, e⟩
    · cases h
  · cases h
theorem zp_f_s {σ σ1 : za_h} {a ci k : Nat} {v : Value} (h : zp_f σ a ci k v = some σ1) : ∃ fs, σ.1 a = some (.inr (ci, fs)) ∧ k < fs.length ∧ σ1 = za_w σ a (.inr (ci, fs.set k v)) := by
  unfold zp_f at h
  split at h
  · rename_i c fs e
    split at h
    · rename_i hc; obtain ⟨rfl, hk⟩ := hc; cases h; exact ⟨fs, e, hk, rfl⟩
    · cases h
  · cases h
theorem za_ld_s {σ : za_h} {a t : Nat} {i x : Int32} (h : za_ld σ a t i = some x) : ∃ n f, σ.1 a = some (.inl (t, n, .inl f)) ∧ vp_in i n ∧ x = f i.toNatClampNeg := by
  unfold za_ld at h
  split at h
  · rename_i u n f e
    split at h
    · rename_i hc; obtain ⟨rfl, hk⟩ := hc; cases h; exact ⟨n, f, e, hk, rfl⟩
    · cases h
  · cases h
theorem za_st_s {σ σ1 : za_h} {a t : Nat} {i x : Int32} (h : za_st σ a t i x = some σ1) : ∃ n f, σ.1 a = some (.inl (t, n, .inl f)) ∧ vp_in i n ∧ σ1 = za_w σ a (.inl (t, n, .inl (upd f i.toNatClampNeg x))) := by
  unfold za_st at h
  split at h
  · rename_i u n f e
    split at h
    · rename_i hc; obtain ⟨rfl, hk⟩ := hc; cases h; exact ⟨n, f, e, hk, rfl⟩
    · cases h
  · cases h
theorem za_lq_s {σ : za_h} {a t : Nat} {i : Int32} {x : Option Nat} (h : za_lq σ a t i = some x) : ∃ n f, σ.1 a = some (.inl (t, n, .inr f)) ∧ vp_in i n ∧ x = f i.toNatClampNeg := by
  unfold za_lq at h
  split at h
  · rename_i u n f e
    split at h
    · rename_i hc; obtain ⟨rfl, hk⟩ := hc; cases h; exact ⟨n, f, e, hk, rfl⟩
    · cases h
  · cases h
theorem za_ln_s {σ : za_h} {a t : Nat} {i : Int32} {b : Nat} (h : za_ln σ a t i = some b) : za_lq σ a t i = some (some b) := by
  unfold za_ln at h
  split at h
  · rename_i y e; cases h; exact e
  · cases h
theorem za_sq_s {σ σ1 : za_h} {a t ci : Nat} {i : Int32} {o : Option Nat} (h : za_sq σ a t ci i o = some σ1) : ∃ n f, σ.1 a = some (.inl (t, n, .inr f)) ∧ vp_in i n ∧ (∀ v, o = some v → ∃ fs, σ.1 v = some (.inr (ci, fs))) ∧ σ1 = za_w σ a (.inl (t, n, .inr (va_up f i.toNatClampNeg o))) := by
  unfold za_sq at h
  split at h
  · rename_i u n f e
    split at h
    · rename_i hc
      obtain ⟨rfl, hk, ho⟩ := hc
      cases h
      refine ⟨n, f, e, hk, fun v hv => ?_, rfl⟩
      subst hv
      obtain ⟨w, hw⟩ := Option.isSome_iff_exists.mp (show (zg_c σ v ci).isSome = true from ho)
      exact zg_c_s hw
    · cases h
  · cases h
def za_ushr (x y : Int32) : Int32 := (x.toUInt32 >>> (y.toUInt32 &&& Int32.toUInt32 31)).toInt32
def za_min (x y : Int32) : Int32 := if y < x then y else x
/-- a step of a function that may fail -/
theorem zb_o {α β : Type} {x : Option α} {f : α → Option β} {y : β} (h : x.bind f = some y) : ∃ v, x = some v ∧ f v = some y := by
  cases x with
  | none => cases h
  | some v => exact ⟨v, rfl, h⟩
theorem zb_t {β : Type} {q : Prop} [Decidable q] {a b : Option β} {y : β} (hq : q) (h : (if q then a else b) = some y) : a = some y := by rwa [if_pos hq] at h
theorem zb_f {β : Type} {q : Prop} [Decidable q] {a b : Option β} {y : β} (hq : ¬ q) (h : (if q then a else b) = some y) : b = some y := by rwa [if_neg hq] at h
theorem zb_g {β : Type} {q : Prop} [Decidable q] {a : Option β} {y : β} (h : (if q then a else none) = some y) : q ∧ a = some y := by
  by_cases hq : q
  · exact ⟨hq, by rwa [if_pos hq] at h⟩
  · rw [if_neg hq] at h; cases h
/-- the steady words -/
def za_ws : List Cond := lw_tbl.filter goodWord
theorem za_ws_in {w : Cond} (h : w ∈ lw_tbl) (hg : goodWord w = true) : w ∈ za_ws := List.mem_filter.mpr ⟨h, hg⟩
theorem za_good {w0 : Cond} (h0 : w0 ∈ za_ws) : GoodIn za_ws (w0 :: za_ws) := by
  intro w hw
  have h1 : w ∈ za_ws := by
    rcases List.mem_cons.mp hw with rfl | h
    · exact h0
    · exact h
  refine ⟨h1, ?_⟩
  have h2 := (List.mem_filter.mp h1).2
  unfold goodWord at h2
  split at h2
  · exact Or.inr ⟨_, rfl⟩
  · exact Or.inl h2
def za_nest : Cond → Bool
  | .fieldLinkNest .. => true
  | .methodLinkNest .. => true
  | _ => false
def za_E (ca : Nat → ClassId) (x : za_c) : va_E := match x with
  | .inl (t, n, .inl f) => .inl (ca t, n, .inl f)
  | .inl (t, n, .inr f) => .inl (ca t, n, .inr (.inr (.inr (.inr f))))
  | .inr o => .inr o
def za_T (ca : Nat → ClassId) : List (ClassId × FieldType) := za_tys.mapIdx (fun k ty => (ca k, ty))
theorem za_T_at {ca : Nat → ClassId} {t : Nat} {ty : FieldType} (h : za_tys[t]? = some ty) : (za_T ca)[t]? = some (ca t, ty) := by
  simp [za_T, List.getElem?_mapIdx, h]
def za_K (D : va_G) (ca : Nat → ClassId) (U : State) : Prop := va_K D vwCl (za_T ca) U ∧ (∀ w ∈ lw_tbl, za_nest w = true → va_Nw w U) ∧ ∀ (t : Nat) (C : String), za_tys[t]? = some (.object C) → va_AO C U
theorem za_K.warm {D : va_G} {ca : Nat → ClassId} {s U : State} (h : za_K D ca s) (hW : s.WarmedH U.vm) : za_K D ca U := by
  refine ⟨h.1.moved hW.alike, fun w hw hn => ?_, fun t C ht => (h.2.2 t C ht).moved hW.alike⟩
  have h1 := h.2.1 w hw hn
  cases w <;> first | exact va_Nw.warmF hW h1 | exact va_Nw.warmM hW h1 | (simp [za_nest] at hn; done)
theorem za_K.same {D : va_G} {ca : Nat → ClassId} {s U : State} (h : za_K D ca s) (hU : s.vm = U.vm) : za_K D ca U := by
  have hal : s.vm.Alike U.vm := by rw [hU]; exact Vm.Alike.refl U.vm
  refine ⟨h.1.moved hal, fun w hw hn => ?_, fun t C ht => (h.2.2 t C ht).moved hal⟩
  have h1 := h.2.1 w hw hn
  cases w <;> first | exact va_Nw.same rfl hU h1 | (simp [za_nest] at hn; done)
def za_R (D : va_G) (ca : Nat → ClassId) (n0 : Nat) (σ : za_h) (H : Heap) : Prop := H.size = σ.2 ∧ n0 ≤ σ.2 ∧ ∀ (a : Nat) (x : za_c), σ.1 a = some x → n0 ≤ a ∧ va_at D vwCl (a, za_E ca x) H
def za_A (n0 : Nat) : Nat → Prop := fun q => n0 ≤ q
def za_I (D : va_G) (ca : Nat → ClassId) (n0 : Nat) (s : State) (σ : za_h) (H : Heap) (locs : List Loc) : Prop := za_R D ca n0 σ H ∧ va_S (za_A n0) s.heap H locs
theorem za_R.P {D : va_G} {ca : Nat → ClassId} {n0 : Nat} {σ : za_h} {H : Heap} (h : za_R D ca n0 σ H) {a : Nat} {x : za_c} (hx : σ.1 a = some x) : va_P D vwCl [(a, za_E ca x)] H := by
  intro k q hk
  cases k with
  | zero =>
    have hq : (a, za_E ca x) = q := by simpa using hk
    subst hq
    exact (h.2.2 a x hx).2
  | succ k => simp at hk
theorem za_R.set {D : va_G} {ca : Nat → ClassId} {n0 : Nat} {σ : za_h} {H H1 : Heap} (h : za_R D ca n0 σ H) {a : Nat} {x0 x : za_c} (ha : σ.1 a = some x0) (z : H1.size = H.size) (he : va_at D vwCl (a, za_E ca x) H1) (oq : ∀ q : Nat, q ≠ a → H1[q]? = H[q]?) : za_R D ca n0 (za_w σ a x) H1 := by
  refine ⟨z.trans h.1, h.2.1, fun b y hb => ?_⟩
  by_cases hq : b = a
  · subst hq
    have hy : x = y := by simpa [za_w, za_up] using hb
    subst hy
    exact ⟨(h.2.2 b x0 ha).1, he⟩
  · have hb' : σ.1 b = some y := by simpa [za_w, za_up, hq] using hb
    exact ⟨(h.2.2 b y hb').1, (h.2.2 b y hb').2.kept (oq b hq)⟩
theorem za_R.new {D : va_G} {ca : Nat → ClassId} {n0 : Nat} {σ : za_h} {H H1 : Heap} (h : za_R D ca n0 σ H) {x : za_c} (z : H1.size = H.size + 1) (he : va_at D vwCl (H.size, za_E ca x) H1) (oq : ∀ q : Nat, q < H.size → H1[q]? = H[q]?) : za_R D ca n0 (za_n σ x) H1 := by
  refine ⟨by rw [z, h.1]; rfl, Nat.le_succ_of_le h.2.1, fun b y hb => ?_⟩
  by_cases hq : b = σ.2
  · subst hq
    have hy : x = y := by simpa [za_n, za_up] using hb
    subst hy
    exact ⟨h.2.1, by rw [← h.1]; exact he⟩
  · have hb' : σ.1 b = some y := by simpa [za_n, za_up, hq] using hb
    have h2 := h.2.2 b y hb'
    exact ⟨h2.1, h2.2.kept (oq b h2.2.lt)⟩
theorem za_S.new {n0 : Nat} {H0 H H1 : Heap} {locs : List Loc} (h : va_S (za_A n0) H0 H locs) (z : H1.size = H.size + 1) (oq : ∀ q : Nat, q < H.size → H1[q]? = H[q]?) : va_S (za_A n0) H0 H1 locs :=
  ⟨Nat.le_trans h.1 (by omega), fun x h1 h2 => (oq x (Nat.lt_of_lt_of_le h1 h.1)).trans (h.2.1 x h1 h2), h.2.2⟩
/-- a field, as an instruction of the class own names it by the place index of its pool -/
def za_fd (own : String) (index ci k : Nat) (ty : FieldType) (fin : Bool) : Prop := ∃ (C : String) (T : u_T) (N : Nat) (tt : Nat → FieldType), vwCl[ci]? = some (C, T, N) ∧ k < N ∧ (∀ w ∈ u_ws C T N, w ∈ za_ws) ∧ (T k).1 = C ∧ parseFieldDescriptor (T k).2.2.1 = some ty ∧ (∀ k, k < N → parseFieldDescriptor (T k).2.2.1 = some (tt k)) ∧ (∀ a, a < N → ∀ b, b < N → a ≠ b → (T a).2.1 ≠ (T b).2.1) ∧ (T k).2.2.2 = fin ∧ (Cond.fieldLink own index C (T k).2.1 (T k).2.2.1 ∈ za_ws ∨ ∃ host, Cond.fieldLinkNest own index C (T k).2.1 (T k).2.2.1 host ∈ lw_tbl)
/-- a final field of the class itself, in its constructor -/
def za_ff (own : String) (index ci k : Nat) (ty : FieldType) : Prop := ∃ (T : u_T) (N : Nat) (tt : Nat → FieldType), vwCl[ci]? = some (own, T, N) ∧ k < N ∧ (∀ w ∈ u_ws own T N, w ∈ za_ws) ∧ (T k).1 = own ∧ parseFieldDescriptor (T k).2.2.1 = some ty ∧ (∀ k, k < N → parseFieldDescriptor (T k).2.2.1 = some (tt k)) ∧ (∀ a, a < N → ∀ b, b < N → a ≠ b → (T a).2.1 ≠ (T b).2.1) ∧ (T k).2.2.2 = true ∧ Cond.fieldLink own index own (T k).2.1 (T k).2.2.1 ∈ za_ws
/-- a class that an instruction makes an object of: what a new one holds -/
def za_nd (own : String) (index ci : Nat) (fs : List Value) (N : Nat) : Prop := ∃ (C : String) (T : u_T) (tt : Nat → FieldType), vwCl[ci]? = some (C, T, N) ∧ (∀ w ∈ u_ws C T N, w ∈ za_ws) ∧ (∀ k, k < N → parseFieldDescriptor (T k).2.2.1 = some (tt k)) ∧ Cond.classLink own index C ∈ za_ws ∧ Cond.instantiable C N ∈ za_ws ∧ Cond.initialized C ∈ za_ws ∧ ∀ j, j < N → defaultValue (tt j) = vp_V fs j
def za_mb (own : String) (index : Nat) (y : MethodName) (bytes : ByteArray) (maxL : Nat) (ret : Option FieldType) (n : Nat) : Prop := Cond.code y bytes maxL ret ∈ za_ws ∧ Cond.initialized y.cls ∈ za_ws ∧ (y.cls ≠ "java/lang/invoke/MethodHandle" ∧ y.cls ≠ "java/lang/invoke/VarHandle" ∧ (parseMethodDescriptor y.desc).map (fun d => d.parameters.length) = some n) ∧ (Cond.methodLink own index y ∈ za_ws ∨ ∃ host, Cond.methodLinkNest own index y host ∈ lw_tbl)
def za_mV (own : String) (index : Nat) (y : MethodName) (bytes : ByteArray) (maxL : Nat) (ret : Option FieldType) (n ci : Nat) : Prop := za_mb own index y bytes maxL ret n ∧ Cond.instanceMethod y ∈ za_ws ∧ Cond.selects y.cls y y ∈ za_ws ∧ ∃ (T : u_T) (N : Nat), vwCl[ci]? = some (y.cls, T, N)
def za_mS (own : String) (index : Nat) (y : MethodName) (bytes : ByteArray) (maxL : Nat) (ret : Option FieldType) (n : Nat) : Prop := za_mb own index y bytes maxL ret n ∧ Cond.static y ∈ za_ws
def za_mI (own : String) (index : Nat) (y : MethodName) (bytes : ByteArray) (maxL : Nat) (n : Nat) : Prop := za_mb own index y bytes maxL none n ∧ y.name = "<init>" ∧ Cond.instanceMethod y ∈ za_ws
def za_wy (y : MethodName) (bytes : ByteArray) (maxL : Nat) (ret : Option FieldType) : List Cond := Cond.code y bytes maxL ret :: za_ws
def za_Pc (D : va_G) (ca : Nat → ClassId) (n0 : Nat) (As : List Value) (σ : za_h) : Array Value → State → Prop := va_Pc As (fun U => za_R D ca n0 σ U.heap ∧ za_K D ca U)
def za_Qi (D : va_G) (ca : Nat → ClassId) (n0 : Nat) (r : Int32) (σ : za_h) : Array Value → State → Outcome → State → Prop := va_Qi (S := Unit) (fun x _ => x = r) (fun _ t => za_R D ca n0 σ t.heap) (za_A n0)
def za_Qv (D : va_G) (ca : Nat → ClassId) (n0 : Nat) (_r : Unit) (σ : za_h) : Array Value → State → Outcome → State → Prop := va_Qv (S := Unit) (fun _ => True) (fun _ t => za_R D ca n0 σ t.heap) (za_A n0)
def za_Qr (D : va_G) (ca : Nat → ClassId) (n0 : Nat) (r : Nat) (σ : za_h) : Array Value → State → Outcome → State → Prop := va_Qr (S := Unit) (fun _ => True) (fun _ a t => a = r ∧ za_R D ca n0 σ t.heap) (za_A n0)
section ZA
variable {p : Program} {l : Launch} {e : Env} {R : Room} {s : State} {m : MethodId} {args : Array Value} {below : List Frame} {meth : Method} {c : Code} {H : Heap} {locs : List Loc} {cells slots : Nat} {Q : State → Prop}
variable {cc : ByteArray} {pc : Nat} {ls : Array Slot} {rest : List Value} {D : va_G} {ca : Nat → ClassId} {n0 : Nat} {σ σ1 : za_h} {a : Nat} {own : String}
theorem za_get (hx : p.tables.exec = Jvm.exec) (hb : c.code = cc) (hts : ∀ w ∈ za_ws, w.before args s = true) (hown : s.vm.findClass own = some m.cls) (hK : za_K D ca s) (hI : za_I D ca n0 s σ H locs) {index ci k : Nat} {ty : FieldType} {fin : Bool} (fd : za_fd own index ci k ty fin) {v : Value} (hg : zg_f σ a ci k = some v) (hdg : decode cc pc = .ok (.getfield index, 3))
    (kk : W p l e R s m args below meth c H locs cells slots Q (F0 m (pc + 3) ls (v :: rest))) : W p l e R s m args below meth c H locs cells slots Q (F0 m pc ls (.ref a :: rest)) := by
  obtain ⟨fs, h1, h2⟩ := zg_f_s hg
  obtain ⟨C, T, N, tt, hc, hk, hin, hT1, hd, hty, hnm, hf, hl⟩ := fd
  have hP := hI.1.P h1
  have hsame : ∀ x, s.fieldFound? (T k).1 (T k).2.1 (T k).2.2.1 = some x → s.fieldFound? C (T k).2.1 (T k).2.2.1 = some x := fun x h => by rw [hT1] at h; exact h
  rcases hl with hl | ⟨host, hl⟩
  · exact va_get hx hb hts hin hown hK.1 hP 0 rfl hc k hk (hts _ hl) hsame h2 hdg kk
  · exact va_getN hx hb hts hin hown hK.1 hP 0 rfl hc k hk (va_Nw.use rfl (hK.2.1 _ hl rfl)) hsame h2 hdg kk
theorem za_geti (hx : p.tables.exec = Jvm.exec) (hb : c.code = cc) (hts : ∀ w ∈ za_ws, w.before args s = true) (hown : s.vm.findClass own = some m.cls) (hK : za_K D ca s) (hI : za_I D ca n0 s σ H locs) {index ci k : Nat} {ty : FieldType} {fin : Bool} (fd : za_fd own index ci k ty fin) {v : Int32} (hg : zg_i σ a ci k = some v) (hdg : decode cc pc = .ok (.getfield index, 3))
    (kk : W p l e R s m args below meth c H locs cells slots Q (F0 m (pc + 3) ls (.int v :: rest))) : W p l e R s m args below meth c H locs cells slots Q (F0 m pc ls (.ref a :: rest)) := za_get hx hb hts hown hK hI fd (zg_i_s hg) hdg kk
theorem za_getr (hx : p.tables.exec = Jvm.exec) (hb : c.code = cc) (hts : ∀ w ∈ za_ws, w.before args s = true) (hown : s.vm.findClass own = some m.cls) (hK : za_K D ca s) (hI : za_I D ca n0 s σ H locs) {index ci k : Nat} {ty : FieldType} {fin : Bool} (fd : za_fd own index ci k ty fin) {v : Nat} (hg : zg_r σ a ci k = some v) (hdg : decode cc pc = .ok (.getfield index, 3))
    (kk : W p l e R s m args below meth c H locs cells slots Q (F0 m (pc + 3) ls (.ref v :: rest))) : W p l e R s m args below meth c H locs cells slots Q (F0 m pc ls (.ref a :: rest)) := za_get hx hb hts hown hK hI fd (zg_r_s hg) hdg kk
theorem za_put (hx : p.tables.exec = Jvm.exec) (hb : c.code = cc) (hts : ∀ w ∈ za_ws, w.before args s = true) (hown : s.vm.findClass own = some m.cls) (hK : za_K D ca s) (hI : za_I D ca n0 s σ H locs) {index ci k : Nat} {ty : FieldType} (fd : za_fd own index ci k ty false) {v : Value} (hg : zp_f σ a ci k v = some σ1) (hn : narrow ty v = v) (hfit : fits ty v = true) (hdg : decode cc pc = .ok (.putfield index, 3))
    (kk : ∀ (H1 : Heap) (locs1 : List Loc), za_I D ca n0 s σ1 H1 locs1 → W p l e R s m args below meth c H1 locs1 cells slots Q (F0 m (pc + 3) ls rest)) : W p l e R s m args below meth c H locs cells slots Q (F0 m pc ls (v :: .ref a :: rest)) := by
  obtain ⟨fs, h1, hlen, rfl⟩ := zp_f_s hg
  obtain ⟨C, T, N, tt, hc, hk, hin, hT1, hd, hty, hnm, hf, hl⟩ := fd
  have hap := va_apart (own := own) hts hin tt hty hnm hK.1 hc
  obtain ⟨hA1, hat⟩ := hI.1.2.2 a _ h1
  obtain ⟨r, hr0, cell, q1, q2, q3, q4⟩ := hat
  have hr : r = (C, T, N) := Option.some.inj (hr0.symm.trans hc)
  subst hr
  obtain ⟨hS, hfc, kC, hkC, hkind⟩ := hK.1.1 ci _ hc
  obtain ⟨cf, kf, fi, f, hi, hsl⟩ := hS k hk
  have hlay := hts _ (hin _ (u_in_lay hk))
  unfold u_lay at hlay
  rw [if_neg (by rw [hf]; decide)] at hlay
  have hst := (u_facts hfc hkC (u_lays hts hin hk) hi).1
  have h6 := u_store hfc hkC hkind hlay hi hd hn hfit
  have hi2 : s.fieldFound? C (T k).2.1 (T k).2.2.1 = some (cf, kf, fi, f) := by rw [hT1] at hi; exact hi
  have fin : ∀ H' : Heap, H'[a]? = some (cell.setSlot f.slot v) → H'.size = H.size → (∀ q, q ≠ a → H'[q]? = H[q]?) → W p l e R s m args below meth c H' (locs ++ [⟨a, f.slot⟩]) cells slots Q (F0 m (pc + 3) ls rest) := by
    intro H' e1 e2 e3
    rw [hsl] at e1 ⊢
    exact kk H' _ ⟨hI.1.set (x := .inr (ci, fs.set k v)) h1 e2 ⟨_, hc, t_OB.to (V := updV (vp_V fs) k v) ⟨_, e1, q2, q3, t_set q4 hap hk v⟩ (fun j _ => vp_updV_set hlen v j)⟩ e3, hI.2.put e2 e3 hA1⟩
  rcases hl with hl | ⟨host, hl⟩
  · exact W.putK hx hb (f := f) ⟨hown, hts _ hl, ⟨_, _, _, hi2⟩, hst⟩ (by rw [q2]; exact h6) q1 q3 (by rw [hsl]; exact k2_hasslot (q4 k hk)) rfl rfl hdg fin
  · exact va_WputK hx hb (f := f) hown (va_Nw.use rfl (hK.2.1 _ hl rfl)) hi2 hst (by rw [q2]; exact h6) q1 q3 (by rw [hsl]; exact k2_hasslot (q4 k hk)) rfl rfl hdg fin
theorem za_putF (hx : p.tables.exec = Jvm.exec) (hb : c.code = cc) (hts : ∀ w ∈ za_ws, w.before args s = true) (hown : s.vm.findClass own = some m.cls) (hnm0 : meth.name = "<init>") (hK : za_K D ca s) (hI : za_I D ca n0 s σ H locs) {index ci k : Nat} {ty : FieldType} (fd : za_ff own index ci k ty) {v : Value} (hg : zp_f σ a ci k v = some σ1) (hn : narrow ty v = v) (hfit : fits ty v = true) (hdg : decode cc pc = .ok (.putfield index, 3))
    (kk : ∀ (H1 : Heap) (locs1 : List Loc), za_I D ca n0 s σ1 H1 locs1 → W p l e R s m args below meth c H1 locs1 cells slots Q (F0 m (pc + 3) ls rest)) : W p l e R s m args below meth c H locs cells slots Q (F0 m pc ls (v :: .ref a :: rest)) := by
  obtain ⟨fs, h1, hlen, rfl⟩ := zp_f_s hg
  obtain ⟨T, N, tt, hc, hk, hin, hT1, hd, hty, hnm, hf, hl⟩ := fd
  have hap := va_apart (own := own) hts hin tt hty hnm hK.1 hc
  obtain ⟨hA1, hat⟩ := hI.1.2.2 a _ h1
  obtain ⟨r, hr0, cell, q1, q2, q3, q4⟩ := hat
  have hr : r = (own, T, N) := Option.some.inj (hr0.symm.trans hc)
  subst hr
  obtain ⟨hS, hfc, kC, hkC, hkind⟩ := hK.1.1 ci _ hc
  obtain ⟨cf, kf, fi, f, hi, hsl⟩ := hS k hk
  have hlay := hts _ (hin _ (u_in_lay hk))
  unfold u_lay at hlay
  rw [if_pos hf] at hlay
  have hst := (u_facts hfc hkC (u_lays hts hin hk) hi).1
  have hcf : m.cls = cf := by
    obtain ⟨_, _, c', _, _, _, -, -, hf', -, -, -, hown2, -⟩ := Cond.laysFinal_spec hlay
    have e1 : c' = cf := by have := hi.symm.trans hf'; simp at this; exact this.1.symm
    rw [hT1] at hown2
    rw [← e1]; exact Option.some.inj (hown.symm.trans hown2)
  have h6 := u_fits hfc hkC hkind (Or.inr hlay) hi hd hn hfit
  have hi2 : s.fieldFound? own (T k).2.1 (T k).2.2.1 = some (cf, kf, fi, f) := by rw [hT1] at hi; exact hi
  refine W.putFinK hx hb hown (hts _ hl) hi2 hst hcf hnm0 (by rw [q2]; exact h6) q1 q3 (by rw [hsl]; exact k2_hasslot (q4 k hk)) rfl rfl hdg fun H' e1 e2 e3 => ?_
  rw [hsl] at e1 ⊢
  exact kk H' _ ⟨hI.1.set (x := .inr (ci, fs.set k v)) h1 e2 ⟨_, hc, t_OB.to (V := updV (vp_V fs) k v) ⟨_, e1, q2, q3, t_set q4 hap hk v⟩ (fun j _ => vp_updV_set hlen v j)⟩ e3, hI.2.put e2 e3 hA1⟩
theorem za_new (hx : p.tables.exec = Jvm.exec) (hb : c.code = cc) (hts : ∀ w ∈ za_ws, w.before args s = true) (hown : s.vm.findClass own = some m.cls) (hK : za_K D ca s) (hI : za_I D ca n0 s σ H locs) {index ci N : Nat} {fs : List Value} (nd : za_nd own index ci fs N) (hcells : cells + 1 ≤ R.cells) (hslots : slots + N ≤ R.slots) (hdg : decode cc pc = .ok (.new index, 3))
    (kk : ∀ H1 : Heap, za_I D ca n0 s (za_n σ (.inr (ci, fs))) H1 locs → W p l e R s m args below meth c H1 locs (cells + 1) (slots + N) Q (F0 m (pc + 3) ls (.ref σ.2 :: rest))) : W p l e R s m args below meth c H locs cells slots Q (F0 m pc ls rest) := by
  obtain ⟨C, T, tt, hc, hin, hty, h1, h2, h3, hfs⟩ := nd
  have hKn := hK.1.1 ci _ hc
  refine W.newcK hx hb hown (hts _ h1) (hts _ h2) (hts _ h3) rfl hdg hcells hslots hKn.2.1 rfl fun H1 kC hkC e1 z1 o1 => ?_
  rw [hI.1.1]
  exact kk H1 ⟨hI.1.new z1 ⟨_, hc, (u_born tt hts hin hKn hkC e1 hty).to hfs⟩ o1, za_S.new hI.2 z1 o1⟩
theorem za_newa (hx : p.tables.exec = Jvm.exec) (hb : c.code = cc) (hts : ∀ w ∈ za_ws, w.before args s = true) (hK : za_K D ca s) (hI : za_I D ca n0 s σ H locs) {atype : ArrayType} {ty : FieldType} (t : Nat) (hty : newarray.typeOf atype = ty) (htt : za_tys[t]? = some ty) (hty2 : ty = .int ∨ ty = .boolean) (hw : Cond.arrayClass ty ∈ za_ws) {n : Int32} {N : Nat} (hn : ¬ n < 0) (hN : n.toNatClampNeg = N) (hby : N * 4 ≤ 536870912) (hcells : cells + 1 ≤ R.cells) (hslots : slots + N ≤ R.slots) (hdg : decode cc pc = .ok (.newarray atype, 2))
    (kk : ∀ H1 : Heap, za_I D ca n0 s (za_n σ (.inl (t, N, .inl (fun _ => 0)))) H1 locs → W p l e R s m args below meth c H1 locs (cells + 1) (slots + N) Q (F0 m (pc + 2) ls (.ref σ.2 :: rest))) : W p l e R s m args below meth c H locs cells slots Q (F0 m pc ls (.int n :: rest)) := by
  subst hty
  refine va_newaK hx hb (hts _ hw) rfl hdg rfl hn hN (by rcases hty2 with h | h <;> rw [h] <;> simp [componentBytes] <;> omega) hcells hslots rfl fun H1 cA e1 z1 o1 hAr hNm => ?_
  have hra := (hK.1.2 t _ (za_T_at htt)).2
  have hcA : cA = ca t := by
    rcases hty2 with h | h <;> rw [h] at hra hNm <;> exact Option.some.inj (hNm.symm.trans hra)
  subst hcA
  rw [hI.1.1]
  refine kk H1 ⟨hI.1.new z1 ?_ o1, za_S.new hI.2 z1 o1⟩
  show H1[H.size]? = some (vp_cell _ _)
  rw [e1, vp_cell_i]
  rcases hty2 with h | h <;> rw [h] <;> rfl
theorem za_newq (hx : p.tables.exec = Jvm.exec) (hb : c.code = cc) (hts : ∀ w ∈ za_ws, w.before args s = true) (hown : s.vm.findClass own = some m.cls) (hK : za_K D ca s) (hI : za_I D ca n0 s σ H locs) {index : Nat} {C : String} (t : Nat) (htt : za_tys[t]? = some (.object C)) (hw : Cond.classLink own index C ∈ za_ws) {n : Int32} {N : Nat} (hn : ¬ n < 0) (hN : n.toNatClampNeg = N) (hby : N * 4 ≤ 536870912) (hcells : cells + 1 ≤ R.cells) (hslots : slots + N ≤ R.slots) (hdg : decode cc pc = .ok (.anewarray index, 3))
    (kk : ∀ H1 : Heap, za_I D ca n0 s (za_n σ (.inl (t, N, .inr (fun _ => none)))) H1 locs → W p l e R s m args below meth c H1 locs (cells + 1) (slots + N) Q (F0 m (pc + 3) ls (.ref σ.2 :: rest))) : W p l e R s m args below meth c H locs cells slots Q (F0 m pc ls (.int n :: rest)) := by
  subst hN
  refine W.anew hx hb hown (hts _ hw) (va_AO.use (hK.2.2 t C htt)) rfl hdg rfl hn hby hcells hslots fun cA kA comp f1 f2 f3 f4 => ?_
  generalize hH1 : H.push ({ cls := cA, slots := Array.replicate n.toNatClampNeg .null, vm := .none } : Cell) = H1
  have z1 : H1.size = H.size + 1 := by rw [← hH1, Array.size_push]
  have e1 : H1[H.size]? = some (arrV cA n.toNatClampNeg (fun _ => .null)) := by rw [← hH1, Array.getElem?_push_size, ← arrV_new]
  have o1 : ∀ q : Nat, q < H.size → H1[q]? = H[q]? := fun q hq => by rw [← hH1, Array.getElem?_push, if_neg (Nat.ne_of_lt hq)]
  obtain ⟨_, _, -, -, -, hra⟩ := (hK.1.2 t _ (za_T_at htt)).2
  have hcA : cA = ca t := Option.some.inj (f1.symm.trans hra)
  subst hcA
  show W p l e R s m args below meth c H1 locs (cells + 1) (slots + n.toNatClampNeg) Q (F0 m (pc + 3) ls (.ref H.size :: rest))
  rw [hI.1.1]
  refine kk H1 ⟨hI.1.new z1 ?_ o1, za_S.new hI.2 z1 o1⟩
  show H1[H.size]? = some (vp_cell _ _)
  rw [e1, vp_cell_q]
  rfl
theorem za_iald (hx : p.tables.exec = Jvm.exec) (hb : c.code = cc) (hK : za_K D ca s) (hI : za_I D ca n0 s σ H locs) {i x : Int32} (hg : za_ld σ a 0 i = some x) (hdg : decode cc pc = .ok (.iaload, 1))
    (kk : W p l e R s m args below meth c H locs cells slots Q (F0 m (pc + 1) ls (.int x :: rest))) : W p l e R s m args below meth c H locs cells slots Q (F0 m pc ls (.int i :: .ref a :: rest)) := by
  obtain ⟨n, f, h1, h2, rfl⟩ := za_ld_s hg
  exact va_iald hx hb hK.1 (hI.1.P h1) 0 0 rfl (za_T_at rfl) h2 hdg kk
theorem za_zald (hx : p.tables.exec = Jvm.exec) (hb : c.code = cc) (hK : za_K D ca s) (hI : za_I D ca n0 s σ H locs) {i x : Int32} (hg : za_ld σ a 1 i = some x) (hdg : decode cc pc = .ok (.baload, 1))
    (kk : W p l e R s m args below meth c H locs cells slots Q (F0 m (pc + 1) ls (.int x :: rest))) : W p l e R s m args below meth c H locs cells slots Q (F0 m pc ls (.int i :: .ref a :: rest)) := by
  obtain ⟨n, f, h1, h2, rfl⟩ := za_ld_s hg
  exact va_zald hx hb hK.1 (hI.1.P h1) 0 1 rfl (za_T_at rfl) h2 hdg kk
theorem za_upd {cA : ClassId} {n i : Nat} {f : Nat → Int32} {x : Int32} {H1 : Heap} {a : Nat} (e : H1[a]? = some ((arrV cA n (fun j => .int (f j))).setSlot i (.int x))) : H1[a]? = some (vp_cell cA (n, .inl (upd f i x))) := by
  rw [e, vp_cell_i, arrV_store]
  congr 2
  funext q
  by_cases hq : q = i
  · subst hq
    simp [updV, upd]
  · simp [updV, upd, hq]
theorem za_iast (hx : p.tables.exec = Jvm.exec) (hb : c.code = cc) (hK : za_K D ca s) (hI : za_I D ca n0 s σ H locs) {i x : Int32} (hg : za_st σ a 0 i x = some σ1) (hdg : decode cc pc = .ok (.iastore, 1))
    (kk : ∀ (H1 : Heap) (locs1 : List Loc), za_I D ca n0 s σ1 H1 locs1 → W p l e R s m args below meth c H1 locs1 cells slots Q (F0 m (pc + 1) ls rest)) : W p l e R s m args below meth c H locs cells slots Q (F0 m pc ls (.int x :: .int i :: .ref a :: rest)) := by
  obtain ⟨n, f, h1, h2, rfl⟩ := za_st_s hg
  obtain ⟨hA1, hat⟩ := hI.1.2.2 a _ h1
  refine W.iast hx hb hat ((hK.1.2 0 _ (za_T_at rfl)).1 n (fun j => .int (f j))) (fun q => by cases q) (by show ¬ (i < 0 ∨ (arrV _ _ _).slots.size ≤ _); rw [arrV_size]; exact h2) rfl rfl hdg fun H1 e z oq => ?_
  exact kk H1 _ ⟨hI.1.set (x := .inl (0, n, .inl (upd f i.toNatClampNeg x))) h1 z (za_upd e) oq, hI.2.put z oq hA1⟩
theorem za_zast (hx : p.tables.exec = Jvm.exec) (hb : c.code = cc) (hK : za_K D ca s) (hI : za_I D ca n0 s σ H locs) {i x : Int32} (hg : za_st σ a 1 i (vp_nar .boolean x) = some σ1) (hdg : decode cc pc = .ok (.bastore, 1))
    (kk : ∀ (H1 : Heap) (locs1 : List Loc), za_I D ca n0 s σ1 H1 locs1 → W p l e R s m args below meth c H1 locs1 cells slots Q (F0 m (pc + 1) ls rest)) : W p l e R s m args below meth c H locs cells slots Q (F0 m pc ls (.int x :: .int i :: .ref a :: rest)) := by
  obtain ⟨n, f, h1, h2, rfl⟩ := za_st_s hg
  obtain ⟨hA1, hat⟩ := hI.1.2.2 a _ h1
  refine W.zast hx hb hat ((hK.1.2 1 _ (za_T_at rfl)).1 n (fun j => .int (f j))) (fun q => by cases q) (by show ¬ (i < 0 ∨ (arrV _ _ _).slots.size ≤ _); rw [arrV_size]; exact h2) rfl rfl hdg fun H1 e z oq => ?_
  refine kk H1 _ ⟨hI.1.set (x := .inl (1, n, .inl (upd f i.toNatClampNeg (vp_nar .boolean x)))) h1 z (za_upd (x := vp_nar .boolean x) ?_) oq, hI.2.put z oq hA1⟩
  exact e
theorem za_aald (hx : p.tables.exec = Jvm.exec) (hb : c.code = cc) (hK : za_K D ca s) (hI : za_I D ca n0 s σ H locs) {t : Nat} {C : String} (htt : za_tys[t]? = some (.object C)) {i : Int32} {x : Option Nat} (hg : za_lq σ a t i = some x) (hdg : decode cc pc = .ok (.aaload, 1))
    (kk : W p l e R s m args below meth c H locs cells slots Q (F0 m (pc + 1) ls (va_rf x :: rest))) : W p l e R s m args below meth c H locs cells slots Q (F0 m pc ls (.int i :: .ref a :: rest)) := by
  obtain ⟨n, f, h1, h2, rfl⟩ := za_lq_s hg
  exact va_aldq hx hb hK.1 (hI.1.P h1) 0 t rfl (za_T_at htt) h2 hdg kk
theorem za_aaln (hx : p.tables.exec = Jvm.exec) (hb : c.code = cc) (hK : za_K D ca s) (hI : za_I D ca n0 s σ H locs) {t : Nat} {C : String} (htt : za_tys[t]? = some (.object C)) {i : Int32} {x : Nat} (hg : za_ln σ a t i = some x) (hdg : decode cc pc = .ok (.aaload, 1))
    (kk : W p l e R s m args below meth c H locs cells slots Q (F0 m (pc + 1) ls (.ref x :: rest))) : W p l e R s m args below meth c H locs cells slots Q (F0 m pc ls (.int i :: .ref a :: rest)) := za_aald hx hb hK hI htt (za_ln_s hg) hdg kk
theorem za_upq {cA : ClassId} {n i : Nat} {f : Nat → Option Nat} {o : Option Nat} {H1 : Heap} {a : Nat} (e : H1[a]? = some ((arrV cA n (fun j => va_rf (f j))).setSlot i (va_rf o))) : H1[a]? = some (vp_cell cA (n, .inr (.inr (.inr (.inr (va_up f i o)))))) := by
  rw [e, vp_cell_q, arrV_store]
  congr 2
  funext q
  by_cases hq : q = i
  · subst hq
    simp [updV, va_up]
  · simp [updV, va_up, hq]
theorem za_aast (hx : p.tables.exec = Jvm.exec) (hb : c.code = cc) (hK : za_K D ca s) (hI : za_I D ca n0 s σ H locs) {t ci : Nat} {C : String} (htt : za_tys[t]? = some (.object C)) (hci : ∃ (T : u_T) (N : Nat), vwCl[ci]? = some (C, T, N)) {i : Int32} {o : Option Nat} (hg : za_sq σ a t ci i o = some σ1) (hdg : decode cc pc = .ok (.aastore, 1))
    (kk : ∀ (H1 : Heap) (locs1 : List Loc), za_I D ca n0 s σ1 H1 locs1 → W p l e R s m args below meth c H1 locs1 cells slots Q (F0 m (pc + 1) ls rest)) : W p l e R s m args below meth c H locs cells slots Q (F0 m pc ls (va_rf o :: .int i :: .ref a :: rest)) := by
  obtain ⟨n, f, h1, h2, h3, rfl⟩ := za_sq_s hg
  obtain ⟨hA1, hat⟩ := hI.1.2.2 a _ h1
  cases o with
  | none =>
    refine va_WaastN (C := C) hx hb hat ((hK.1.2 t _ (za_T_at htt)).1 n (fun j => va_rf (f j))) (fun h => by cases h) (by show ¬ (i < 0 ∨ (arrV _ _ _).slots.size ≤ _); rw [arrV_size]; exact h2) rfl rfl hdg fun H1 e z oq => ?_
    exact kk H1 _ ⟨hI.1.set (x := .inl (t, n, .inr (va_up f i.toNatClampNeg none))) h1 z (za_upq (o := none) e) oq, hI.2.put z oq hA1⟩
  | some v =>
    obtain ⟨fs, hv⟩ := h3 v rfl
    obtain ⟨T, N, hci⟩ := hci
    have hlt : i.toNatClampNeg < n := Nat.not_le.mp fun q => h2 (Or.inr q)
    have h0 : ¬ i < 0 := fun q => h2 (Or.inl q)
    obtain ⟨r', hr', cellV, g1, g2, g3, -⟩ := (hI.1.2.2 v _ hv).2
    have hcls := (hK.1.1 ci _ hci).2
    obtain ⟨kA, comp, k1, k2, k3, -⟩ := (hK.1.2 t _ (za_T_at htt)).2
    have hcomp : comp = D.1 ci := Option.some.inj (k3.symm.trans hcls.1)
    subst hcomp
    obtain ⟨kC, hkC, -⟩ := hcls.2
    refine W.aast hx hb hat (fun q h => by cases h) (fun h => by cases h) k1 k2 rfl hkC ⟨h0, by show _ < (arrV _ _ _).slots.size; rw [arrV_size]; exact hlt⟩ g1 (fun q h => by rw [g3] at h; cases h) (by rw [g2]; exact hkC) (by rw [g2]; exact va_assign hcls) rfl rfl hdg fun H1 e z oq => ?_
    exact kk H1 _ ⟨hI.1.set (x := .inl (t, n, .inr (va_up f i.toNatClampNeg (some v)))) h1 z (za_upq (o := some v) e) oq, hI.2.put z oq hA1⟩
/-- a reference that may be null, from and to a local -/
theorem za_aload_n (hx : p.tables.exec = Jvm.exec) (hb : c.code = cc) {k : Fin 4} {i : Nat} {o : Option Nat} (hdg : decode cc pc = .ok (.aload_n k, 1)) (hi : (k : Nat) = i) (hl : ls[i]? = some (.val (va_rf o)))
    (kk : W p l e R s m args below meth c H locs cells slots Q (F0 m (pc + 1) ls (va_rf o :: rest))) : W p l e R s m args below meth c H locs cells slots Q (F0 m pc ls rest) := by
  cases o with
  | none => exact lv_aload_nN hx hb hdg hi hl kk
  | some x => exact lv_aload_n hx hb hdg hi hl kk
theorem za_aload (hx : p.tables.exec = Jvm.exec) (hb : c.code = cc) {i : Nat} {o : Option Nat} (hdg : decode cc pc = .ok (.aload i, 2)) (hl : ls[i]? = some (.val (va_rf o)))
    (kk : W p l e R s m args below meth c H locs cells slots Q (F0 m (pc + 2) ls (va_rf o :: rest))) : W p l e R s m args below meth c H locs cells slots Q (F0 m pc ls rest) := by
  cases o with
  | none => exact lv_aloadN hx hb hdg hl kk
  | some x => exact lv_aload hx hb hdg hl kk
theorem za_astore_n (hx : p.tables.exec = Jvm.exec) (hb : c.code = cc) {k : Fin 4} {i nL : Nat} {o : Option Nat} {lv lv' : List (Nat × Value)} (hdg : decode cc pc = .ok (.astore_n k, 1)) (hi : (k : Nat) = i) (h : lv_has ls nL lv) (hn : i < nL) (hl : (i, va_rf o) :: lv.filter (fun q => !(q.1 == i) && !(q.1 + 1 == i && q.2.category == 2)) = lv')
    (kk : ∀ ls' : Array Slot, lv_has ls' nL lv' → W p l e R s m args below meth c H locs cells slots Q (F0 m (pc + 1) ls' rest)) : W p l e R s m args below meth c H locs cells slots Q (F0 m pc ls (va_rf o :: rest)) := by
  cases o with
  | none => exact lv_astore_nN hx hb hdg hi h hn hl kk
  | some x => exact lv_astore_n hx hb hdg hi h hn hl kk
theorem za_astore (hx : p.tables.exec = Jvm.exec) (hb : c.code = cc) {i nL : Nat} {o : Option Nat} {lv lv' : List (Nat × Value)} (hdg : decode cc pc = .ok (.astore i, 2)) (h : lv_has ls nL lv) (hn : i < nL) (hl : (i, va_rf o) :: lv.filter (fun q => !(q.1 == i) && !(q.1 + 1 == i && q.2.category == 2)) = lv')
    (kk : ∀ ls' : Array Slot, lv_has ls' nL lv' → W p l e R s m args below meth c H locs cells slots Q (F0 m (pc + 2) ls' rest)) : W p l e R s m args below meth c H locs cells slots Q (F0 m pc ls (va_rf o :: rest)) := by
  cases o with
  | none => exact lv_astoreN hx hb hdg h hn hl kk
  | some x => exact lv_astore hx hb hdg h hn hl kk
theorem za_ifnull (hx : p.tables.exec = Jvm.exec) (hb : c.code = cc) {o : Option Nat} {off : Int} {tgt : Nat} (hdg : decode cc pc = .ok (.ifnull off, 3)) (ht : (pc : Int) + off = (tgt : Int))
    (kt : o = none → W p l e R s m args below meth c H locs cells slots Q (F0 m tgt ls rest)) (kf : ∀ x, o = some x → W p l e R s m args below meth c H locs cells slots Q (F0 m (pc + 3) ls rest)) : W p l e R s m args below meth c H locs cells slots Q (F0 m pc ls (va_rf o :: rest)) := by
  cases o with
  | none => exact lv_ifnullN hx hb hdg ht (kt rfl)
  | some x => exact lv_ifnull hx hb hdg (kf x rfl)
theorem za_ifnonnull (hx : p.tables.exec = Jvm.exec) (hb : c.code = cc) {o : Option Nat} {off : Int} {tgt : Nat} (hdg : decode cc pc = .ok (.ifnonnull off, 3)) (ht : (pc : Int) + off = (tgt : Int))
    (kt : ∀ x, o = some x → W p l e R s m args below meth c H locs cells slots Q (F0 m tgt ls rest)) (kf : o = none → W p l e R s m args below meth c H locs cells slots Q (F0 m (pc + 3) ls rest)) : W p l e R s m args below meth c H locs cells slots Q (F0 m pc ls (va_rf o :: rest)) := by
  cases o with
  | none => exact lv_ifnonnullN hx hb hdg (kf rfl)
  | some x => exact lv_ifnonnull hx hb hdg ht (kt x rfl)
/-- ends -/
theorem za_iret {r v : Int32} {mc ms : Nat} {σ' : za_h} (hx : p.tables.exec = Jvm.exec) (hb : c.code = cc) (hr : meth.sig.returnType = some .int) (hlk : meth.locks = false) (hI : za_I D ca n0 s σ H locs) (h : some (v, σ) = some (r, σ')) (hc : cells ≤ mc) (hs : slots ≤ ms) (hdg : decode cc pc = .ok (.ireturn, 1)) : W p l e R s m args below meth c H locs cells slots (MQ below (za_Qi D ca n0 r σ') args s mc ms (za_A n0)) (F0 m pc ls [.int v]) := by
  cases h
  refine W.widen hc hs (W.iret hx hb hr (fun t ht hW => ⟨⟨_, (), rfl, rfl, ?_⟩, hI.2.F ht⟩) hI.2.2.2 hdg hlk)
  show za_R D ca n0 _ t.heap
  rw [ht]; exact hI.1
theorem za_zret {r v : Int32} {mc ms : Nat} {σ' : za_h} (hx : p.tables.exec = Jvm.exec) (hb : c.code = cc) (hr : meth.sig.returnType = some .boolean) (hlk : meth.locks = false) (hI : za_I D ca n0 s σ H locs) (hv : v = 0 ∨ v = 1) (h : some (v, σ) = some (r, σ')) (hc : cells ≤ mc) (hs : slots ≤ ms) (hdg : decode cc pc = .ok (.ireturn, 1)) : W p l e R s m args below meth c H locs cells slots (MQ below (za_Qi D ca n0 r σ') args s mc ms (za_A n0)) (F0 m pc ls [.int v]) := by
  cases h
  refine W.widen hc hs (W.zret hx hb hr (by rcases hv with rfl | rfl <;> decide +kernel) (fun t ht hW => ⟨⟨_, (), rfl, rfl, ?_⟩, hI.2.F ht⟩) hI.2.2.2 hdg hlk)
  show za_R D ca n0 _ t.heap
  rw [ht]; exact hI.1
theorem za_vret {r : Unit} {mc ms : Nat} {σ' : za_h} (hx : p.tables.exec = Jvm.exec) (hb : c.code = cc) (hr : meth.sig.returnType = none) (hlk : meth.locks = false) (hI : za_I D ca n0 s σ H locs) (h : some ((), σ) = some (r, σ')) (hc : cells ≤ mc) (hs : slots ≤ ms) (hdg : decode cc pc = .ok (.return_, 1)) : W p l e R s m args below meth c H locs cells slots (MQ below (za_Qv D ca n0 r σ') args s mc ms (za_A n0)) (F0 m pc ls []) := by
  cases h
  refine W.widen hc hs (W.vret hx hb hr (fun t ht hW => ⟨⟨(), rfl, trivial, ?_⟩, hI.2.F ht⟩) hI.2.2.2 hdg hlk)
  show za_R D ca n0 _ t.heap
  rw [ht]; exact hI.1
theorem za_aret {r v : Nat} {mc ms : Nat} {σ' : za_h} {rt : FieldType} (hx : p.tables.exec = Jvm.exec) (hb : c.code = cc) (hr : meth.sig.returnType = some rt) (hrt : (∃ n, rt = .object n) ∨ ∃ t, rt = .array t) (hlk : meth.locks = false) (hI : za_I D ca n0 s σ H locs) (h : some (v, σ) = some (r, σ')) (hc : cells ≤ mc) (hs : slots ≤ ms) (hdg : decode cc pc = .ok (.areturn, 1)) : W p l e R s m args below meth c H locs cells slots (MQ below (za_Qr D ca n0 r σ') args s mc ms (za_A n0)) (F0 m pc ls [.ref v]) := by
  cases h
  refine W.widen hc hs (W.aret hx hb hr hrt (Or.inr ⟨_, rfl⟩) (fun t ht hW => ⟨⟨(), _, rfl, trivial, rfl, ?_⟩, hI.2.F ht⟩) hI.2.2.2 hdg hlk)
  show za_R D ca n0 _ t.heap
  rw [ht]; exact hI.1
/-- calls -/
theorem za_blind {As : List Value} : FrameBlind (za_Pc D ca n0 As σ) := by
  intro x U g mk h
  exact ⟨h.1, h.2.1, h.2.2.same rfl⟩
theorem za_runV {y : MethodName} {bytes : ByteArray} {maxL nL mc ms n index ci b : Nat} {ret : Option FieldType} {rm : Room} {Qc : Array Value → State → Outcome → State → Prop} {As : List Value} {st0 : List Value} (hx : p.tables.exec = Jvm.exec) (hb : c.code = cc) (hml : c.maxLocals = nL) (hown : s.vm.findClass own = some m.cls) (hts : ∀ w ∈ za_ws, w.before args s = true) (hK : za_K D ca s) (hI : za_I D ca n0 s σ H locs) (hg : zg_c σ b ci = some ())
    (hM : Met l y (za_wy y bytes maxL ret) rm (za_Pc D ca n0 (.ref b :: As) σ) Qc mc ms (za_A n0)) (md : za_mV own index y bytes maxL ret n ci) (hrm : rm.cells = mc ∧ rm.slots = ms) (hR : rm.frames + 1 ≤ R.frames ∧ 8 + (maxL + 11) + rm.locals ≤ R.locals) (hn : As.length = n) (hsize : ls.size = nL) (hst : st0 = As.reverse ++ .ref b :: rest) (hW : (rest.map fun v => v.category).sum ≤ 8) (hdg : decode cc pc = .ok (.invokevirtual index, 3)) (hf : cells + mc ≤ R.cells ∧ slots + ms ≤ R.slots) :
    va_Run p l e R s m args below meth c H locs cells slots mc ms (F0 m pc ls st0) rest (Qc (Value.ref b :: As).toArray) (za_A n0) := by
  obtain ⟨⟨h1, h2, h3, h4⟩, h5, h6, T, N, hci⟩ := md
  obtain ⟨fs, hcell⟩ := zg_c_s hg
  have hrecv := va_recv (q0 := 0) (a := b) (fs := fs) hK.1 (hI.1.P hcell) hci rfl
  have hp : PreV s H y.cls b (za_Pc D ca n0 (.ref b :: As) σ) As := ⟨za_blind, hrecv, fun U hU hW => ⟨rfl, by rw [hU]; exact hI.1, hK.warm hW⟩⟩
  rcases h4 with h4 | ⟨host, h4⟩
  · exact va_runV ⟨hx, hb, hml, hown, hts⟩ hM ⟨callB_of n hts (za_good h1) rfl hrm.1 hrm.2 (hts _ h2) (hts _ h4) h3 hR, hts _ h5, hts _ h6⟩ hp rfl hn hsize hst (lv_room hW) hdg hf
  · exact va_runVN ⟨hx, hb, hml, hown, hts⟩ hM ⟨va_cnB n hts (za_good h1) rfl hrm.1 hrm.2 (hK.2.1 _ h4 rfl) (hts _ h2) h3 hR, hts _ h5, hts _ h6⟩ hp rfl hn hsize hst (lv_room hW) hdg hf
theorem za_runS {y : MethodName} {bytes : ByteArray} {maxL nL mc ms n index : Nat} {ret : Option FieldType} {rm : Room} {Qc : Array Value → State → Outcome → State → Prop} {As : List Value} {st0 : List Value} (hx : p.tables.exec = Jvm.exec) (hb : c.code = cc) (hml : c.maxLocals = nL) (hown : s.vm.findClass own = some m.cls) (hts : ∀ w ∈ za_ws, w.before args s = true) (hK : za_K D ca s) (hI : za_I D ca n0 s σ H locs)
    (hM : Met l y (za_wy y bytes maxL ret) rm (za_Pc D ca n0 As σ) Qc mc ms (za_A n0)) (md : za_mS own index y bytes maxL ret n) (hrm : rm.cells = mc ∧ rm.slots = ms) (hR : rm.frames + 1 ≤ R.frames ∧ 8 + (maxL + 11) + rm.locals ≤ R.locals) (hn : As.length = n) (hsize : ls.size = nL) (hst : st0 = As.reverse ++ rest) (hW : (rest.map fun v => v.category).sum ≤ 8) (hdg : decode cc pc = .ok (.invokestatic index, 3)) (hf : cells + mc ≤ R.cells ∧ slots + ms ≤ R.slots) :
    va_Run p l e R s m args below meth c H locs cells slots mc ms (F0 m pc ls st0) rest (Qc As.toArray) (za_A n0) := by
  obtain ⟨⟨h1, h2, h3, h4⟩, h5⟩ := md
  have hp : PreS s H (za_Pc D ca n0 As σ) As := ⟨za_blind, fun U hU hW => ⟨rfl, by rw [hU]; exact hI.1, hK.warm hW⟩⟩
  rcases h4 with h4 | ⟨host, h4⟩
  · exact va_runS ⟨hx, hb, hml, hown, hts⟩ hM ⟨callB_of n hts (za_good h1) rfl hrm.1 hrm.2 (hts _ h2) (hts _ h4) h3 hR, hts _ h5⟩ hp rfl hn hsize hst (lv_room hW) hdg hf
  · exact va_runSN ⟨hx, hb, hml, hown, hts⟩ hM ⟨va_cnB n hts (za_good h1) rfl hrm.1 hrm.2 (hK.2.1 _ h4 rfl) (hts _ h2) h3 hR, hts _ h5, trivial⟩ hp rfl hn hsize hst (lv_room hW) hdg hf
theorem za_runI {y : MethodName} {bytes : ByteArray} {maxL nL mc ms n index b : Nat} {rm : Room} {Qc : Array Value → State → Outcome → State → Prop} {As : List Value} {st0 : List Value} (hx : p.tables.exec = Jvm.exec) (hb : c.code = cc) (hml : c.maxLocals = nL) (hown : s.vm.findClass own = some m.cls) (hts : ∀ w ∈ za_ws, w.before args s = true) (hK : za_K D ca s) (hI : za_I D ca n0 s σ H locs)
    (hM : Met l y (za_wy y bytes maxL none) rm (za_Pc D ca n0 (.ref b :: As) σ) Qc mc ms (za_A n0)) (md : za_mI own index y bytes maxL n) (hrm : rm.cells = mc ∧ rm.slots = ms) (hR : rm.frames + 1 ≤ R.frames ∧ 8 + (maxL + 11) + rm.locals ≤ R.locals) (hn : As.length = n) (hsize : ls.size = nL) (hst : st0 = As.reverse ++ .ref b :: rest) (hW : (rest.map fun v => v.category).sum ≤ 8) (hdg : decode cc pc = .ok (.invokespecial index, 3)) (hf : cells + mc ≤ R.cells ∧ slots + ms ≤ R.slots) :
    va_Run p l e R s m args below meth c H locs cells slots mc ms (F0 m pc ls st0) rest (Qc (Value.ref b :: As).toArray) (za_A n0) := by
  obtain ⟨⟨h1, h2, h3, h4⟩, h5, h6⟩ := md
  have hp : PreS s H (za_Pc D ca n0 (.ref b :: As) σ) (.ref b :: As) := ⟨za_blind, fun U hU hW => ⟨rfl, by rw [hU]; exact hI.1, hK.warm hW⟩⟩
  rcases h4 with h4 | ⟨host, h4⟩
  · exact va_runI ⟨hx, hb, hml, hown, hts⟩ hM ⟨callB_of n hts (za_good h1) rfl hrm.1 hrm.2 (hts _ h2) (hts _ h4) h3 hR, h5, hts _ h6⟩ hp rfl hn hsize hst (lv_room hW) hdg hf
  · exact va_runIN ⟨hx, hb, hml, hown, hts⟩ hM ⟨va_cnB n hts (za_good h1) rfl hrm.1 hrm.2 (hK.2.1 _ h4 rfl) (hts _ h2) h3 hR, h5, hts _ h6⟩ hp rfl hn hsize hst (lv_room hW) hdg hf
theorem za_calli {r : Int32} {mc ms : Nat} {av : Array Value} {st0 : List Value} (hr : va_Run p l e R s m args below meth c H locs cells slots mc ms (F0 m pc ls st0) rest (za_Qi D ca n0 r σ1 av) (za_A n0)) (hI : za_I D ca n0 s σ H locs)
    (kk : ∀ (H1 : Heap) (locs1 : List Loc), za_I D ca n0 s σ1 H1 locs1 → W p l e R s m args below meth c H1 locs1 (cells + mc) (slots + ms) Q (F0 m (pc + 3) ls (.int r :: rest))) : W p l e R s m args below meth c H locs cells slots Q (F0 m pc ls st0) :=
  va_calli hr hI.2 (fun _ _ h => h) (fun _ h => h) (fun r' u t H1 locs1 ht _ hp hB _ _ hS => by
    have hp' : r' = r := hp
    subst hp'
    have hB' : za_R D ca n0 σ1 t.heap := hB
    rw [ht] at hB'
    exact kk H1 locs1 ⟨hB', hS⟩)
theorem za_callv {r : Unit} {mc ms : Nat} {av : Array Value} {st0 : List Value} (hr : va_Run p l e R s m args below meth c H locs cells slots mc ms (F0 m pc ls st0) rest (za_Qv D ca n0 r σ1 av) (za_A n0)) (hI : za_I D ca n0 s σ H locs)
    (kk : ∀ (H1 : Heap) (locs1 : List Loc), za_I D ca n0 s σ1 H1 locs1 → W p l e R s m args below meth c H1 locs1 (cells + mc) (slots + ms) Q (F0 m (pc + 3) ls rest)) : W p l e R s m args below meth c H locs cells slots Q (F0 m pc ls st0) :=
  va_callv hr hI.2 (fun _ _ h => h) (fun _ h => h) (fun u t H1 locs1 ht _ _ hB _ _ hS => by
    have hB' : za_R D ca n0 σ1 t.heap := hB
    rw [ht] at hB'
    exact kk H1 locs1 ⟨hB', hS⟩)
theorem za_callr {r : Nat} {mc ms : Nat} {av : Array Value} {st0 : List Value} (hr : va_Run p l e R s m args below meth c H locs cells slots mc ms (F0 m pc ls st0) rest (za_Qr D ca n0 r σ1 av) (za_A n0)) (hI : za_I D ca n0 s σ H locs)
    (kk : ∀ (H1 : Heap) (locs1 : List Loc), za_I D ca n0 s σ1 H1 locs1 → W p l e R s m args below meth c H1 locs1 (cells + mc) (slots + ms) Q (F0 m (pc + 3) ls (.ref r :: rest))) : W p l e R s m args below meth c H locs cells slots Q (F0 m pc ls st0) :=
  va_callr hr hI.2 (fun _ _ h => h) (fun _ h => h) (fun u ra t H1 locs1 ht _ _ hB _ _ hS => by
    obtain ⟨rfl, hB'⟩ : ra = r ∧ za_R D ca n0 σ1 t.heap := hB
    rw [ht] at hB'
    exact kk H1 locs1 ⟨hB', hS⟩)
end ZA
/-- a method's contract out of the walk of its body -/
theorem za_met {l : Launch} {y : MethodName} {bytes : ByteArray} {maxL mc ms n0 : Nat} {ret : Option FieldType} {rm : Room} {D : va_G} {ca : Nat → ClassId} {Qc : Array Value → State → Outcome → State → Prop} {As : List Value} {σ : za_h} (hy : plainName y.cls = true) (hlen : (lg_sl As).length ≤ maxL)
    (body : ∀ (p : Program) (e : Env) (s : State) (m : MethodId) (below : List Frame) (meth : Method) (c : Code) (ls : Array Slot), p.tables.exec = Jvm.exec → c.code = bytes → c.maxLocals = maxL → meth.sig.returnType = ret → meth.locks = false → (∀ w ∈ za_ws, w.before As.toArray s = true) → s.vm.findClass y.cls = some m.cls → meth.name = y.name → za_K D ca s → za_I D ca n0 s σ s.heap [] → lv_has ls maxL (lv_args 0 As) →
      W p l e rm s m As.toArray below meth c s.heap [] 0 0 (MQ below Qc As.toArray s mc ms (za_A n0)) (F0 m 0 ls [])) : Met l y (za_wy y bytes maxL ret) rm (za_Pc D ca n0 As σ) Qc mc ms (za_A n0) := by
  refine Met.ofW (cc := bytes) (maxL := maxL) (ret := ret) hy rfl ?_
  intro p e s m args below meth c s₁ B hml hv
  obtain ⟨rfl, hR0, hK⟩ := hv
  have hts := atoms_spec (ws := za_wy y bytes maxL ret) B.pre
  have hl := lv_entry As (n := maxL) hlen
  rw [lg_entry_eq]
  exact body p e s m below meth c _ B.exec B.bytes hml B.returns B.notSynchronized (fun w hw => hts w (List.mem_cons_of_mem _ hw)) (findClass_of_methodNamed B.named) (name_of_methodNamed B.named B.method).1 hK ⟨hR0, va_S.rf⟩ hl
