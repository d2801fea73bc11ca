/-! The mathematics of the votes: sets as naturals, a node's registers Q of its slot: Q 0 (3 kind + how): voted, accepted, confirmed; Q 1 (6 u + 2 kind + a): what is known of u; Q 2 0..3: round, leaders, counter, proposal. -/
def zq_pop (n : Nat) : Nat := (n.testBit 0).toNat + (n.testBit 1).toNat + (n.testBit 2).toNat + (n.testBit 3).toNat + (n.testBit 4).toNat
def zq_b5 (p : Nat → Bool) : Nat := (p 0).toNat + 2 * (p 1).toNat + 4 * (p 2).toNat + 8 * (p 3).toNat + 16 * (p 4).toNat
theorem zq_b5_lt (p : Nat → Bool) : zq_b5 p < 32 := by
  unfold zq_b5
  cases p 0 <;> cases p 1 <;> cases p 2 <;> cases p 3 <;> cases p 4 <;> decide
theorem zq_b5_tb (p : Nat → Bool) {u : Nat} (h : u < 5) : (zq_b5 p).testBit u = p u := by
  unfold zq_b5
  rcases (show u = 0 ∨ u = 1 ∨ u = 2 ∨ u = 3 ∨ u = 4 by omega) with rfl | rfl | rfl | rfl | rfl <;>
    cases p 0 <;> cases p 1 <;> cases p 2 <;> cases p 3 <;> cases p 4 <;> decide
def zq_sat (th me inn gr set : Nat) : Bool := decide (th ≤ zq_pop (set &&& me) + (if 0 < inn ∧ inn ≤ zq_pop (set &&& gr) then 1 else 0))
def zq_quo (P : Nat → Nat → Bool) (set : Nat) : Bool := (List.range 5).all fun v => !set.testBit v || P set v
def zq_sub (a b : Nat) : Bool := (a &&& b) == a
def zq_giv (P : Nat → Nat → Bool) (set v : Nat) : Bool := (List.range 32).any fun part => zq_sub part set && part.testBit v && zq_quo P part
abbrev zq_Q : Type := Nat → Nat → Nat
def zq_has (Q : zq_Q) (k h b : Nat) : Bool := (Q 0 (3 * k + h)).testBit b
def zq_put (Q : zq_Q) (k h b : Nat) : zq_Q := u2 Q 0 (3 * k + h) (Q 0 (3 * k + h) ||| 2 ^ b)
/-- those who backed, or accepted, statement b of kind k, as v knows -/
def zq_bk (v : Nat) (Q : zq_Q) (k b : Nat) : Nat := zq_b5 fun u => if u = v then zq_has Q k 1 b || zq_has Q k 0 b else (Q 1 (6 * u + 2 * k)).testBit b
def zq_ac (v : Nat) (Q : zq_Q) (k b : Nat) : Nat := zq_b5 fun u => if u = v then zq_has Q k 1 b else (Q 1 (6 * u + 2 * k + 1)).testBit b
def zq_wo (b : Nat) : Nat := b % 7 + 1
/-- ballot c aborts ballot b -/
def zq_ab (b c : Nat) : Bool := decide (c < b) && !(zq_wo c == zq_wo b)
def zq_cl (Q : zq_Q) (k h b : Nat) (over : Bool) : Bool := (List.range 28).any fun c => (if over then zq_ab c b else zq_ab b c) && zq_has Q k h c
def zq_may (P : Nat → Nat → Bool) (v : Nat) (Q : zq_Q) (k b : Nat) : Bool :=
  !(k == 1 && zq_cl Q 2 1 b false) && !(k == 2 && zq_cl Q 1 1 b true) && (!(P (31 - zq_ac v Q k b) v) || zq_giv P (zq_bk v Q k b) v)
def zq_cf (P : Nat → Nat → Bool) (v : Nat) (Q : zq_Q) (k b : Nat) : Bool := zq_giv P (zq_ac v Q k b) v
/-- one statement voted, accepted, confirmed: was it new, and the registers then -/
def zq_vote (Q : zq_Q) (k b : Nat) : Bool × zq_Q := (!zq_has Q k 0 b, zq_put Q k 0 b)
def zq_acc (P : Nat → Nat → Bool) (v : Nat) (k b : Nat) (Q : zq_Q) : Bool × zq_Q := if !zq_has Q k 1 b && zq_may P v Q k b then (true, zq_put Q k 1 b) else (false, Q)
def zq_con (P : Nat → Nat → Bool) (v : Nat) (k b : Nat) (Q : zq_Q) : Bool × zq_Q := if !zq_has Q k 2 b && zq_cf P v Q k b then (true, zq_put Q k 2 b) else (false, Q)
/-- a rule run over the statements b, b + 1, .. (n of them) -/
def zq_loop (f : Nat → zq_Q → Bool × zq_Q) : Nat → Nat → Bool → zq_Q → Bool × zq_Q
  | 0, _, m, Q => (m, Q)
  | n + 1, b, m, Q => zq_loop f n (b + 1) ((f b Q).1 || m) (f b Q).2
def zq_comp (Q : zq_Q) : Nat := (List.range 7).foldl (fun a i => if zq_has Q 0 2 (i + 1) then a ||| (i + 1) else a) 0
/-- the value of the highest confirmed ballot below n, or c -/
def zq_top (Q : zq_Q) (c : Nat) : Nat → Nat
  | 0 => c
  | n + 1 => if zq_has Q 1 2 n then zq_wo n else zq_top Q c n
def zq_toP (Q : zq_Q) : Nat := zq_top Q (zq_comp Q) 28
def zq_A1 (v : Nat) (b : Nat) (Q : zq_Q) : Bool × zq_Q := if ((Q 2 1).testBit v && Q 2 3 == b) || !(zq_bk v Q 0 b &&& Q 2 1 == 0) then zq_vote Q 0 b else (false, Q)
def zq_A (v : Nat) (Q : zq_Q) : Bool × zq_Q := if Q 0 2 = 0 then zq_loop (zq_A1 v) 7 1 false Q else (false, Q)
def zq_vp (Q : zq_Q) : zq_Q := (zq_vote Q 1 (7 * (Q 2 2 - 1) + zq_toP Q - 1)).2
def zq_D (Q : zq_Q) : Bool × zq_Q := if Q 2 2 = 0 ∧ zq_comp Q ≠ 0 then (true, zq_vp (u2 Q 2 2 1)) else (false, Q)
def zq_G1 (b : Nat) (Q : zq_Q) : Bool × zq_Q := if !(zq_cl Q 1 0 b true) && !(zq_cl Q 1 1 b true) && zq_has Q 1 2 b then zq_vote Q 2 b else (false, Q)
def zq_G (Q : zq_Q) : Bool × zq_Q := zq_loop zq_G1 28 0 false Q
/-- the last rule: the outcome's ballot, if there is one -/
def zq_H (P : Nat → Nat → Bool) (v : Nat) : Nat → Nat → Bool → zq_Q → Option Nat × Bool × zq_Q
  | 0, _, m, Q => (none, m, Q)
  | n + 1, b, m, Q => if zq_cf P v (zq_acc P v 2 b Q).2 2 b then (some b, (zq_acc P v 2 b Q).1 || m, zq_put (zq_acc P v 2 b Q).2 2 2 b) else zq_H P v n (b + 1) ((zq_acc P v 2 b Q).1 || m) (zq_acc P v 2 b Q).2
