/-! The reference's cells as a register file S: S k i is what field k holds (an array: at i; a number: at 0). Laid by program (wip/whole/refform.py). -/
def zr_k (j : Nat) : Nat := if j < 15 then j + 1 else j + 2
def zr_t (j : Nat) : Nat := if j = 5 ∨ j = 18 then 1 else 0
def zr_n (j : Nat) : Nat := match j with
  | 5 => 32
  | 11 => 135
  | 12 => 150
  | 13 => 15
  | 15 => 120
  | 16 => 120
  | 17 => 720
  | 18 => 9
  | 19 => 9
  | 20 => 9
  | 21 => 9
  | 22 => 9
  | 23 => 9
  | 24 => 40
  | 26 => 45
  | 27 => 45
  | 28 => 45
  | 29 => 45
  | _ => 5
def zr_o (m : Nat) (S : Nat → Nat → Nat) : za_c := .inr (10, [.int (nI (S 0 0)), .int (nI (S 1 0)), .ref (m + 1), .ref (m + 2), .ref (m + 3), .ref (m + 4), .ref (m + 5), .ref (m + 6), .ref (m + 7), .ref (m + 8), .ref (m + 9), .ref (m + 10), .ref (m + 11), .ref (m + 12), .ref (m + 13), .ref (m + 14), .int (nI (S 16 0)), .ref (m + 15), .ref (m + 16), .ref (m + 17), .ref (m + 18), .ref (m + 19), .ref (m + 20), .ref (m + 21), .ref (m + 22), .ref (m + 23), .ref (m + 24), .ref (m + 25), .ref (m + 26), .ref (m + 27), .ref (m + 28), .ref (m + 29)])
def zr_c (S : Nat → Nat → Nat) (j : Nat) : za_c := .inl (zr_t j, zr_n j, .inl (fun i => nI (S (zr_k j) i)))
def zr (d : za_h) (m : Nat) (S : Nat → Nat → Nat) : za_h := (fun a => if a = m then some (zr_o m S) else if m < a ∧ a < m + 30 then some (zr_c S (a - m)) else d.1 a, d.2)
theorem zr_at0 (d : za_h) (m : Nat) (S : Nat → Nat → Nat) : (zr d m S).1 m = some (zr_o m S) := by simp [zr]
theorem zr_at {d : za_h} {m j : Nat} {S : Nat → Nat → Nat} (h0 : 0 < j) (h : j < 30) : (zr d m S).1 (m + j) = some (zr_c S j) := by
  have h1 : m + j ≠ m := by omega
  have h2 : m < m + j ∧ m + j < m + 30 := by omega
  have h3 : m + j - m = j := by omega
  simp [zr, h1, h2, h3]
  omega
theorem zr_kne {j j' : Nat} (h : j ≠ j') : zr_k j ≠ zr_k j' := by
  unfold zr_k; split <;> split <;> omega
theorem zr_k3 (j : Nat) (h0 : 0 < j) : zr_k j ≠ 0 ∧ zr_k j ≠ 1 ∧ zr_k j ≠ 16 := by
  unfold zr_k; split <;> omega
theorem zr_nlt : ∀ j, j < 30 → zr_n j < 2 ^ 31 := by decide
theorem zr_ld {d : za_h} {m j i : Nat} {S : Nat → Nat → Nat} (h0 : 0 < j) (h : j < 30) (hi : i < zr_n j) : za_ld (zr d m S) (m + j) (zr_t j) (nI i) = some (nI (S (zr_k j) i)) := by
  have hb := zr_nlt j h
  unfold za_ld
  rw [zr_at h0 h]
  show (if zr_t j = zr_t j ∧ ¬ (nI i < 0 ∨ zr_n j ≤ (nI i).toNatClampNeg) then _ else _) = _
  rw [if_pos ⟨rfl, zn_in hi hb⟩, nI_clamp (by omega)]
theorem zr_st {d : za_h} {m j i v : Nat} {S : Nat → Nat → Nat} (h0 : 0 < j) (h : j < 30) (hi : i < zr_n j) : za_st (zr d m S) (m + j) (zr_t j) (nI i) (nI v) = some (zr d m (u2 S (zr_k j) i v)) := by
  have hb := zr_nlt j h
  unfold za_st
  rw [zr_at h0 h]
  show (if zr_t j = zr_t j ∧ ¬ (nI i < 0 ∨ zr_n j ≤ (nI i).toNatClampNeg) then _ else _) = _
  rw [if_pos ⟨rfl, zn_in hi hb⟩, nI_clamp (by omega)]
  congr 1
  refine Prod.ext ?_ rfl
  funext a
  show (if a = m + j then _ else (zr d m S).1 a) = (zr d m (u2 S (zr_k j) i v)).1 a
  by_cases ha : a = m + j
  · subst ha
    rw [if_pos rfl, zr_at h0 h]
    congr 1
    unfold zr_c
    congr 4
    funext q
    by_cases hq : q = i
    · subst hq; simp [upd, u2]
    · simp [upd, u2, hq]
  · rw [if_neg ha]
    simp only [zr]
    by_cases hm : a = m
    · obtain ⟨k1, k2, k3⟩ := zr_k3 j h0
      simp only [hm, if_true]
      unfold zr_o
      rw [u2_row (Ne.symm k1), u2_row (Ne.symm k2), u2_row (Ne.symm k3)]
    · rw [if_neg hm, if_neg hm]
      by_cases hr : m < a ∧ a < m + 30
      · rw [if_pos hr, if_pos hr]
        unfold zr_c
        rw [u2_row (zr_kne (show a - m ≠ j by omega))]
      · rw [if_neg hr, if_neg hr]
theorem zr_gc (d : za_h) (m : Nat) (S : Nat → Nat → Nat) : zg_c (zr d m S) m 10 = some () := by
  unfold zg_c; rw [zr_at0]; rfl
theorem zr_gf (d : za_h) (m k : Nat) (S : Nat → Nat → Nat) {fs : List Value} (hfs : zr_o m S = .inr (10, fs)) : zg_f (zr d m S) m 10 k = fs[k]? := by
  unfold zg_f; rw [zr_at0, hfs]; simp
theorem zr_2 (d : za_h) (m : Nat) (S : Nat → Nat → Nat) : (zr d m S).2 = d.2 := rfl
theorem zr_frame {d : za_h} {m a : Nat} {S : Nat → Nat → Nat} (h : a < m ∨ m + 30 ≤ a) : (zr d m S).1 a = d.1 a := by
  have h1 : a ≠ m := by omega
  have h2 : ¬ (m < a ∧ a < m + 30) := by omega
  simp only [zr, if_neg h1, if_neg h2]
theorem zr_i0 (d : za_h) (m : Nat) (S : Nat → Nat → Nat) : zg_i (zr d m S) m 10 0 = some (nI (S 0 0)) := by
  unfold zg_i; rw [zr_gf d m 0 S rfl]; rfl
theorem zr_i1 (d : za_h) (m : Nat) (S : Nat → Nat → Nat) : zg_i (zr d m S) m 10 1 = some (nI (S 1 0)) := by
  unfold zg_i; rw [zr_gf d m 1 S rfl]; rfl
theorem zr_g2 (d : za_h) (m : Nat) (S : Nat → Nat → Nat) : zg_r (zr d m S) m 10 2 = some (m + 1) := by
  unfold zg_r; rw [zr_gf d m 2 S rfl]; rfl
theorem zr_l2 {d : za_h} {m i : Nat} {S : Nat → Nat → Nat} (h : i < 5) : za_ld (zr d m S) (m + 1) 0 (nI i) = some (nI (S 2 i)) := zr_ld (j := 1) (by decide) (by decide) h
theorem zr_s2 {d : za_h} {m i v : Nat} {S : Nat → Nat → Nat} (h : i < 5) : za_st (zr d m S) (m + 1) 0 (nI i) (nI v) = some (zr d m (u2 S 2 i v)) := zr_st (j := 1) (by decide) (by decide) h
theorem zr_g3 (d : za_h) (m : Nat) (S : Nat → Nat → Nat) : zg_r (zr d m S) m 10 3 = some (m + 2) := by
  unfold zg_r; rw [zr_gf d m 3 S rfl]; rfl
theorem zr_l3 {d : za_h} {m i : Nat} {S : Nat → Nat → Nat} (h : i < 5) : za_ld (zr d m S) (m + 2) 0 (nI i) = some (nI (S 3 i)) := zr_ld (j := 2) (by decide) (by decide) h
theorem zr_s3 {d : za_h} {m i v : Nat} {S : Nat → Nat → Nat} (h : i < 5) : za_st (zr d m S) (m + 2) 0 (nI i) (nI v) = some (zr d m (u2 S 3 i v)) := zr_st (j := 2) (by decide) (by decide) h
theorem zr_g4 (d : za_h) (m : Nat) (S : Nat → Nat → Nat) : zg_r (zr d m S) m 10 4 = some (m + 3) := by
  unfold zg_r; rw [zr_gf d m 4 S rfl]; rfl
theorem zr_l4 {d : za_h} {m i : Nat} {S : Nat → Nat → Nat} (h : i < 5) : za_ld (zr d m S) (m + 3) 0 (nI i) = some (nI (S 4 i)) := zr_ld (j := 3) (by decide) (by decide) h
theorem zr_s4 {d : za_h} {m i v : Nat} {S : Nat → Nat → Nat} (h : i < 5) : za_st (zr d m S) (m + 3) 0 (nI i) (nI v) = some (zr d m (u2 S 4 i v)) := zr_st (j := 3) (by decide) (by decide) h
theorem zr_g5 (d : za_h) (m : Nat) (S : Nat → Nat → Nat) : zg_r (zr d m S) m 10 5 = some (m + 4) := by
  unfold zg_r; rw [zr_gf d m 5 S rfl]; rfl
theorem zr_l5 {d : za_h} {m i : Nat} {S : Nat → Nat → Nat} (h : i < 5) : za_ld (zr d m S) (m + 4) 0 (nI i) = some (nI (S 5 i)) := zr_ld (j := 4) (by decide) (by decide) h
theorem zr_s5 {d : za_h} {m i v : Nat} {S : Nat → Nat → Nat} (h : i < 5) : za_st (zr d m S) (m + 4) 0 (nI i) (nI v) = some (zr d m (u2 S 5 i v)) := zr_st (j := 4) (by decide) (by decide) h
theorem zr_g6 (d : za_h) (m : Nat) (S : Nat → Nat → Nat) : zg_r (zr d m S) m 10 6 = some (m + 5) := by
  unfold zg_r; rw [zr_gf d m 6 S rfl]; rfl
theorem zr_l6 {d : za_h} {m i : Nat} {S : Nat → Nat → Nat} (h : i < 32) : za_ld (zr d m S) (m + 5) 1 (nI i) = some (nI (S 6 i)) := zr_ld (j := 5) (by decide) (by decide) h
theorem zr_s6 {d : za_h} {m i v : Nat} {S : Nat → Nat → Nat} (h : i < 32) : za_st (zr d m S) (m + 5) 1 (nI i) (nI v) = some (zr d m (u2 S 6 i v)) := zr_st (j := 5) (by decide) (by decide) h
theorem zr_g7 (d : za_h) (m : Nat) (S : Nat → Nat → Nat) : zg_r (zr d m S) m 10 7 = some (m + 6) := by
  unfold zg_r; rw [zr_gf d m 7 S rfl]; rfl
theorem zr_l7 {d : za_h} {m i : Nat} {S : Nat → Nat → Nat} (h : i < 5) : za_ld (zr d m S) (m + 6) 0 (nI i) = some (nI (S 7 i)) := zr_ld (j := 6) (by decide) (by decide) h
theorem zr_s7 {d : za_h} {m i v : Nat} {S : Nat → Nat → Nat} (h : i < 5) : za_st (zr d m S) (m + 6) 0 (nI i) (nI v) = some (zr d m (u2 S 7 i v)) := zr_st (j := 6) (by decide) (by decide) h
theorem zr_g8 (d : za_h) (m : Nat) (S : Nat → Nat → Nat) : zg_r (zr d m S) m 10 8 = some (m + 7) := by
  unfold zg_r; rw [zr_gf d m 8 S rfl]; rfl
theorem zr_l8 {d : za_h} {m i : Nat} {S : Nat → Nat → Nat} (h : i < 5) : za_ld (zr d m S) (m + 7) 0 (nI i) = some (nI (S 8 i)) := zr_ld (j := 7) (by decide) (by decide) h
theorem zr_s8 {d : za_h} {m i v : Nat} {S : Nat → Nat → Nat} (h : i < 5) : za_st (zr d m S) (m + 7) 0 (nI i) (nI v) = some (zr d m (u2 S 8 i v)) := zr_st (j := 7) (by decide) (by decide) h
theorem zr_g9 (d : za_h) (m : Nat) (S : Nat → Nat → Nat) : zg_r (zr d m S) m 10 9 = some (m + 8) := by
  unfold zg_r; rw [zr_gf d m 9 S rfl]; rfl
theorem zr_l9 {d : za_h} {m i : Nat} {S : Nat → Nat → Nat} (h : i < 5) : za_ld (zr d m S) (m + 8) 0 (nI i) = some (nI (S 9 i)) := zr_ld (j := 8) (by decide) (by decide) h
theorem zr_s9 {d : za_h} {m i v : Nat} {S : Nat → Nat → Nat} (h : i < 5) : za_st (zr d m S) (m + 8) 0 (nI i) (nI v) = some (zr d m (u2 S 9 i v)) := zr_st (j := 8) (by decide) (by decide) h
theorem zr_g10 (d : za_h) (m : Nat) (S : Nat → Nat → Nat) : zg_r (zr d m S) m 10 10 = some (m + 9) := by
  unfold zg_r; rw [zr_gf d m 10 S rfl]; rfl
theorem zr_l10 {d : za_h} {m i : Nat} {S : Nat → Nat → Nat} (h : i < 5) : za_ld (zr d m S) (m + 9) 0 (nI i) = some (nI (S 10 i)) := zr_ld (j := 9) (by decide) (by decide) h
theorem zr_s10 {d : za_h} {m i v : Nat} {S : Nat → Nat → Nat} (h : i < 5) : za_st (zr d m S) (m + 9) 0 (nI i) (nI v) = some (zr d m (u2 S 10 i v)) := zr_st (j := 9) (by decide) (by decide) h
theorem zr_g11 (d : za_h) (m : Nat) (S : Nat → Nat → Nat) : zg_r (zr d m S) m 10 11 = some (m + 10) := by
  unfold zg_r; rw [zr_gf d m 11 S rfl]; rfl
theorem zr_l11 {d : za_h} {m i : Nat} {S : Nat → Nat → Nat} (h : i < 5) : za_ld (zr d m S) (m + 10) 0 (nI i) = some (nI (S 11 i)) := zr_ld (j := 10) (by decide) (by decide) h
theorem zr_s11 {d : za_h} {m i v : Nat} {S : Nat → Nat → Nat} (h : i < 5) : za_st (zr d m S) (m + 10) 0 (nI i) (nI v) = some (zr d m (u2 S 11 i v)) := zr_st (j := 10) (by decide) (by decide) h
theorem zr_g12 (d : za_h) (m : Nat) (S : Nat → Nat → Nat) : zg_r (zr d m S) m 10 12 = some (m + 11) := by
  unfold zg_r; rw [zr_gf d m 12 S rfl]; rfl
theorem zr_l12 {d : za_h} {m i : Nat} {S : Nat → Nat → Nat} (h : i < 135) : za_ld (zr d m S) (m + 11) 0 (nI i) = some (nI (S 12 i)) := zr_ld (j := 11) (by decide) (by decide) h
theorem zr_s12 {d : za_h} {m i v : Nat} {S : Nat → Nat → Nat} (h : i < 135) : za_st (zr d m S) (m + 11) 0 (nI i) (nI v) = some (zr d m (u2 S 12 i v)) := zr_st (j := 11) (by decide) (by decide) h
theorem zr_g13 (d : za_h) (m : Nat) (S : Nat → Nat → Nat) : zg_r (zr d m S) m 10 13 = some (m + 12) := by
  unfold zg_r; rw [zr_gf d m 13 S rfl]; rfl
theorem zr_l13 {d : za_h} {m i : Nat} {S : Nat → Nat → Nat} (h : i < 150) : za_ld (zr d m S) (m + 12) 0 (nI i) = some (nI (S 13 i)) := zr_ld (j := 12) (by decide) (by decide) h
theorem zr_s13 {d : za_h} {m i v : Nat} {S : Nat → Nat → Nat} (h : i < 150) : za_st (zr d m S) (m + 12) 0 (nI i) (nI v) = some (zr d m (u2 S 13 i v)) := zr_st (j := 12) (by decide) (by decide) h
theorem zr_g14 (d : za_h) (m : Nat) (S : Nat → Nat → Nat) : zg_r (zr d m S) m 10 14 = some (m + 13) := by
  unfold zg_r; rw [zr_gf d m 14 S rfl]; rfl
theorem zr_l14 {d : za_h} {m i : Nat} {S : Nat → Nat → Nat} (h : i < 15) : za_ld (zr d m S) (m + 13) 0 (nI i) = some (nI (S 14 i)) := zr_ld (j := 13) (by decide) (by decide) h
theorem zr_s14 {d : za_h} {m i v : Nat} {S : Nat → Nat → Nat} (h : i < 15) : za_st (zr d m S) (m + 13) 0 (nI i) (nI v) = some (zr d m (u2 S 14 i v)) := zr_st (j := 13) (by decide) (by decide) h
theorem zr_g15 (d : za_h) (m : Nat) (S : Nat → Nat → Nat) : zg_r (zr d m S) m 10 15 = some (m + 14) := by
  unfold zg_r; rw [zr_gf d m 15 S rfl]; rfl
theorem zr_l15 {d : za_h} {m i : Nat} {S : Nat → Nat → Nat} (h : i < 5) : za_ld (zr d m S) (m + 14) 0 (nI i) = some (nI (S 15 i)) := zr_ld (j := 14) (by decide) (by decide) h
theorem zr_s15 {d : za_h} {m i v : Nat} {S : Nat → Nat → Nat} (h : i < 5) : za_st (zr d m S) (m + 14) 0 (nI i) (nI v) = some (zr d m (u2 S 15 i v)) := zr_st (j := 14) (by decide) (by decide) h
theorem zr_i16 (d : za_h) (m : Nat) (S : Nat → Nat → Nat) : zg_i (zr d m S) m 10 16 = some (nI (S 16 0)) := by
  unfold zg_i; rw [zr_gf d m 16 S rfl]; rfl
theorem zr_g17 (d : za_h) (m : Nat) (S : Nat → Nat → Nat) : zg_r (zr d m S) m 10 17 = some (m + 15) := by
  unfold zg_r; rw [zr_gf d m 17 S rfl]; rfl
theorem zr_l17 {d : za_h} {m i : Nat} {S : Nat → Nat → Nat} (h : i < 120) : za_ld (zr d m S) (m + 15) 0 (nI i) = some (nI (S 17 i)) := zr_ld (j := 15) (by decide) (by decide) h
theorem zr_s17 {d : za_h} {m i v : Nat} {S : Nat → Nat → Nat} (h : i < 120) : za_st (zr d m S) (m + 15) 0 (nI i) (nI v) = some (zr d m (u2 S 17 i v)) := zr_st (j := 15) (by decide) (by decide) h
theorem zr_g18 (d : za_h) (m : Nat) (S : Nat → Nat → Nat) : zg_r (zr d m S) m 10 18 = some (m + 16) := by
  unfold zg_r; rw [zr_gf d m 18 S rfl]; rfl
theorem zr_l18 {d : za_h} {m i : Nat} {S : Nat → Nat → Nat} (h : i < 120) : za_ld (zr d m S) (m + 16) 0 (nI i) = some (nI (S 18 i)) := zr_ld (j := 16) (by decide) (by decide) h
theorem zr_s18 {d : za_h} {m i v : Nat} {S : Nat → Nat → Nat} (h : i < 120) : za_st (zr d m S) (m + 16) 0 (nI i) (nI v) = some (zr d m (u2 S 18 i v)) := zr_st (j := 16) (by decide) (by decide) h
theorem zr_g19 (d : za_h) (m : Nat) (S : Nat → Nat → Nat) : zg_r (zr d m S) m 10 19 = some (m + 17) := by
  unfold zg_r; rw [zr_gf d m 19 S rfl]; rfl
theorem zr_l19 {d : za_h} {m i : Nat} {S : Nat → Nat → Nat} (h : i < 720) : za_ld (zr d m S) (m + 17) 0 (nI i) = some (nI (S 19 i)) := zr_ld (j := 17) (by decide) (by decide) h
theorem zr_s19 {d : za_h} {m i v : Nat} {S : Nat → Nat → Nat} (h : i < 720) : za_st (zr d m S) (m + 17) 0 (nI i) (nI v) = some (zr d m (u2 S 19 i v)) := zr_st (j := 17) (by decide) (by decide) h
theorem zr_g20 (d : za_h) (m : Nat) (S : Nat → Nat → Nat) : zg_r (zr d m S) m 10 20 = some (m + 18) := by
  unfold zg_r; rw [zr_gf d m 20 S rfl]; rfl
theorem zr_l20 {d : za_h} {m i : Nat} {S : Nat → Nat → Nat} (h : i < 9) : za_ld (zr d m S) (m + 18) 1 (nI i) = some (nI (S 20 i)) := zr_ld (j := 18) (by decide) (by decide) h
theorem zr_s20 {d : za_h} {m i v : Nat} {S : Nat → Nat → Nat} (h : i < 9) : za_st (zr d m S) (m + 18) 1 (nI i) (nI v) = some (zr d m (u2 S 20 i v)) := zr_st (j := 18) (by decide) (by decide) h
theorem zr_g21 (d : za_h) (m : Nat) (S : Nat → Nat → Nat) : zg_r (zr d m S) m 10 21 = some (m + 19) := by
  unfold zg_r; rw [zr_gf d m 21 S rfl]; rfl
theorem zr_l21 {d : za_h} {m i : Nat} {S : Nat → Nat → Nat} (h : i < 9) : za_ld (zr d m S) (m + 19) 0 (nI i) = some (nI (S 21 i)) := zr_ld (j := 19) (by decide) (by decide) h
theorem zr_s21 {d : za_h} {m i v : Nat} {S : Nat → Nat → Nat} (h : i < 9) : za_st (zr d m S) (m + 19) 0 (nI i) (nI v) = some (zr d m (u2 S 21 i v)) := zr_st (j := 19) (by decide) (by decide) h
theorem zr_g22 (d : za_h) (m : Nat) (S : Nat → Nat → Nat) : zg_r (zr d m S) m 10 22 = some (m + 20) := by
  unfold zg_r; rw [zr_gf d m 22 S rfl]; rfl
theorem zr_l22 {d : za_h} {m i : Nat} {S : Nat → Nat → Nat} (h : i < 9) : za_ld (zr d m S) (m + 20) 0 (nI i) = some (nI (S 22 i)) := zr_ld (j := 20) (by decide) (by decide) h
theorem zr_s22 {d : za_h} {m i v : Nat} {S : Nat → Nat → Nat} (h : i < 9) : za_st (zr d m S) (m + 20) 0 (nI i) (nI v) = some (zr d m (u2 S 22 i v)) := zr_st (j := 20) (by decide) (by decide) h
theorem zr_g23 (d : za_h) (m : Nat) (S : Nat → Nat → Nat) : zg_r (zr d m S) m 10 23 = some (m + 21) := by
  unfold zg_r; rw [zr_gf d m 23 S rfl]; rfl
theorem zr_l23 {d : za_h} {m i : Nat} {S : Nat → Nat → Nat} (h : i < 9) : za_ld (zr d m S) (m + 21) 0 (nI i) = some (nI (S 23 i)) := zr_ld (j := 21) (by decide) (by decide) h
theorem zr_s23 {d : za_h} {m i v : Nat} {S : Nat → Nat → Nat} (h : i < 9) : za_st (zr d m S) (m + 21) 0 (nI i) (nI v) = some (zr d m (u2 S 23 i v)) := zr_st (j := 21) (by decide) (by decide) h
theorem zr_g24 (d : za_h) (m : Nat) (S : Nat → Nat → Nat) : zg_r (zr d m S) m 10 24 = some (m + 22) := by
  unfold zg_r; rw [zr_gf d m 24 S rfl]; rfl
theorem zr_l24 {d : za_h} {m i : Nat} {S : Nat → Nat → Nat} (h : i < 9) : za_ld (zr d m S) (m + 22) 0 (nI i) = some (nI (S 24 i)) := zr_ld (j := 22) (by decide) (by decide) h
theorem zr_s24 {d : za_h} {m i v : Nat} {S : Nat → Nat → Nat} (h : i < 9) : za_st (zr d m S) (m + 22) 0 (nI i) (nI v) = some (zr d m (u2 S 24 i v)) := zr_st (j := 22) (by decide) (by decide) h
theorem zr_g25 (d : za_h) (m : Nat) (S : Nat → Nat → Nat) : zg_r (zr d m S) m 10 25 = some (m + 23) := by
  unfold zg_r; rw [zr_gf d m 25 S rfl]; rfl
theorem zr_l25 {d : za_h} {m i : Nat} {S : Nat → Nat → Nat} (h : i < 9) : za_ld (zr d m S) (m + 23) 0 (nI i) = some (nI (S 25 i)) := zr_ld (j := 23) (by decide) (by decide) h
theorem zr_s25 {d : za_h} {m i v : Nat} {S : Nat → Nat → Nat} (h : i < 9) : za_st (zr d m S) (m + 23) 0 (nI i) (nI v) = some (zr d m (u2 S 25 i v)) := zr_st (j := 23) (by decide) (by decide) h
theorem zr_g26 (d : za_h) (m : Nat) (S : Nat → Nat → Nat) : zg_r (zr d m S) m 10 26 = some (m + 24) := by
  unfold zg_r; rw [zr_gf d m 26 S rfl]; rfl
theorem zr_l26 {d : za_h} {m i : Nat} {S : Nat → Nat → Nat} (h : i < 40) : za_ld (zr d m S) (m + 24) 0 (nI i) = some (nI (S 26 i)) := zr_ld (j := 24) (by decide) (by decide) h
theorem zr_s26 {d : za_h} {m i v : Nat} {S : Nat → Nat → Nat} (h : i < 40) : za_st (zr d m S) (m + 24) 0 (nI i) (nI v) = some (zr d m (u2 S 26 i v)) := zr_st (j := 24) (by decide) (by decide) h
theorem zr_g27 (d : za_h) (m : Nat) (S : Nat → Nat → Nat) : zg_r (zr d m S) m 10 27 = some (m + 25) := by
  unfold zg_r; rw [zr_gf d m 27 S rfl]; rfl
theorem zr_l27 {d : za_h} {m i : Nat} {S : Nat → Nat → Nat} (h : i < 5) : za_ld (zr d m S) (m + 25) 0 (nI i) = some (nI (S 27 i)) := zr_ld (j := 25) (by decide) (by decide) h
theorem zr_s27 {d : za_h} {m i v : Nat} {S : Nat → Nat → Nat} (h : i < 5) : za_st (zr d m S) (m + 25) 0 (nI i) (nI v) = some (zr d m (u2 S 27 i v)) := zr_st (j := 25) (by decide) (by decide) h
theorem zr_g28 (d : za_h) (m : Nat) (S : Nat → Nat → Nat) : zg_r (zr d m S) m 10 28 = some (m + 26) := by
  unfold zg_r; rw [zr_gf d m 28 S rfl]; rfl
theorem zr_l28 {d : za_h} {m i : Nat} {S : Nat → Nat → Nat} (h : i < 45) : za_ld (zr d m S) (m + 26) 0 (nI i) = some (nI (S 28 i)) := zr_ld (j := 26) (by decide) (by decide) h
theorem zr_s28 {d : za_h} {m i v : Nat} {S : Nat → Nat → Nat} (h : i < 45) : za_st (zr d m S) (m + 26) 0 (nI i) (nI v) = some (zr d m (u2 S 28 i v)) := zr_st (j := 26) (by decide) (by decide) h
theorem zr_g29 (d : za_h) (m : Nat) (S : Nat → Nat → Nat) : zg_r (zr d m S) m 10 29 = some (m + 27) := by
  unfold zg_r; rw [zr_gf d m 29 S rfl]; rfl
theorem zr_l29 {d : za_h} {m i : Nat} {S : Nat → Nat → Nat} (h : i < 45) : za_ld (zr d m S) (m + 27) 0 (nI i) = some (nI (S 29 i)) := zr_ld (j := 27) (by decide) (by decide) h
theorem zr_s29 {d : za_h} {m i v : Nat} {S : Nat → Nat → Nat} (h : i < 45) : za_st (zr d m S) (m + 27) 0 (nI i) (nI v) = some (zr d m (u2 S 29 i v)) := zr_st (j := 27) (by decide) (by decide) h
theorem zr_g30 (d : za_h) (m : Nat) (S : Nat → Nat → Nat) : zg_r (zr d m S) m 10 30 = some (m + 28) := by
  unfold zg_r; rw [zr_gf d m 30 S rfl]; rfl
theorem zr_l30 {d : za_h} {m i : Nat} {S : Nat → Nat → Nat} (h : i < 45) : za_ld (zr d m S) (m + 28) 0 (nI i) = some (nI (S 30 i)) := zr_ld (j := 28) (by decide) (by decide) h
theorem zr_s30 {d : za_h} {m i v : Nat} {S : Nat → Nat → Nat} (h : i < 45) : za_st (zr d m S) (m + 28) 0 (nI i) (nI v) = some (zr d m (u2 S 30 i v)) := zr_st (j := 28) (by decide) (by decide) h
theorem zr_g31 (d : za_h) (m : Nat) (S : Nat → Nat → Nat) : zg_r (zr d m S) m 10 31 = some (m + 29) := by
  unfold zg_r; rw [zr_gf d m 31 S rfl]; rfl
theorem zr_l31 {d : za_h} {m i : Nat} {S : Nat → Nat → Nat} (h : i < 45) : za_ld (zr d m S) (m + 29) 0 (nI i) = some (nI (S 31 i)) := zr_ld (j := 29) (by decide) (by decide) h
theorem zr_s31 {d : za_h} {m i v : Nat} {S : Nat → Nat → Nat} (h : i < 45) : za_st (zr d m S) (m + 29) 0 (nI i) (nI v) = some (zr d m (u2 S 31 i v)) := zr_st (j := 29) (by decide) (by decide) h
theorem zr_p1 (d : za_h) (m v : Nat) (S : Nat → Nat → Nat) : zp_f (zr d m S) m 10 1 (.int (nI v)) = some (zr d m (u2 S 1 0 v)) := by
  unfold zp_f
  rw [zr_at0]
  show (if 10 = 10 ∧ 1 < 32 then _ else _) = _
  rw [if_pos ⟨rfl, by decide⟩]
  congr 1
  refine Prod.ext ?_ rfl
  funext a
  show (if a = m then _ else (zr d m S).1 a) = (zr d m (u2 S 1 0 v)).1 a
  by_cases hm : a = m
  · subst hm
    rw [if_pos rfl, zr_at0]
    unfold zr_o
    simp only [u2_s, u2_k (show (0 : Nat) ≠ 1 by decide), u2_k (show (16 : Nat) ≠ 1 by decide)]
    rfl
  · rw [if_neg hm]
    simp only [zr, if_neg hm]
    by_cases hr : m < a ∧ a < m + 30
    · rw [if_pos hr, if_pos hr]
      unfold zr_c
      rw [u2_row (zr_k3 (a - m) (by omega)).2.1]
    · rw [if_neg hr, if_neg hr]
theorem zr_p16 (d : za_h) (m v : Nat) (S : Nat → Nat → Nat) : zp_f (zr d m S) m 10 16 (.int (nI v)) = some (zr d m (u2 S 16 0 v)) := by
  unfold zp_f
  rw [zr_at0]
  show (if 10 = 10 ∧ 16 < 32 then _ else _) = _
  rw [if_pos ⟨rfl, by decide⟩]
  congr 1
  refine Prod.ext ?_ rfl
  funext a
  show (if a = m then _ else (zr d m S).1 a) = (zr d m (u2 S 16 0 v)).1 a
  by_cases hm : a = m
  · subst hm
    rw [if_pos rfl, zr_at0]
    unfold zr_o
    simp only [u2_s, u2_k (show (0 : Nat) ≠ 16 by decide), u2_k (show (1 : Nat) ≠ 16 by decide)]
    rfl
  · rw [if_neg hm]
    simp only [zr, if_neg hm]
    by_cases hr : m < a ∧ a < m + 30
    · rw [if_pos hr, if_pos hr]
      unfold zr_c
      rw [u2_row (zr_k3 (a - m) (by omega)).2.2]
    · rw [if_neg hr, if_neg hr]
