/-! the lines, read purely -/
abbrev Ps : Type := PD × (Nat → Nat) × Nat × Nat × Nat
def sS (d : PD) (j v : Nat) : PD := fun i k => if i = 0 ∧ k = j then v else d i k
def d0 : PD := fun i k => if i = 0 then [0, 0, 1, 1, 3, 6, 12, 0].getD k 0 else 0
def ps0 : Ps := (d0, T0, 0, 0, 0)
/-- row i, from o on, w wide: the letters of the name at f -/
def sR (B : Nat → Nat) (d : PD) (i o w f : Nat) : PD := fun i' k => if i' = i ∧ o ≤ k ∧ k < o + w then B (f + (k - o)) - 97 else d i' k
def sE (d : PD) (i j v : Nat) : PD := fun i' k => if i' = i ∧ k = j then v else d i' k
def adW (B : Nat → Nat) (d : PD) (f e v : Nat) : PD := sS (sE (sE (sR B d 3 (8 * nw d) 8 f) 1 (nw d) (e - f)) 2 (nw d) v) 0 (nw d + 1)
def adS (B : Nat → Nat) (d : PD) (f e f' e' : Nat) : PD := sS (sE (sE (sR B (sR B d 5 (3 * nsh d) 3 f) 7 (8 * nsh d) 8 f') 4 (nsh d) (e - f)) 6 (nsh d) (e' - f')) 1 (nsh d + 1)
def adG (d : PD) (a b : Nat) : PD := sS (sE (sE d 8 (ngd d) a) 9 (ngd d) b) 7 (ngd d + 1)
/-- fault, place, what is told, behind -/
abbrev Pr : Type := Nat × Nat × Ps × Nat
section
variable (B : Nat → Nat) (n : Nat)
def tf (a : Nat) : Nat := (tkn B n a).2.1
def te (a : Nat) : Nat := (tkn B n a).2.2.1
def tv (a : Nat) : Nat := (tkn B n a).2.2.2
/-- on, if no fault F at the token at a -/
def thn (s : Ps) (F a : Nat) (r : Pr) : Pr := if F = 0 then r else (F, tf B n a, s, a)
def lnS (s : Ps) (a : Nat) : Pr := thn B n s (fSi B n a) a (0, 0, s, te B n a)
def dst (f : Nat) : Bool := decide (fnd (fun k => decide (fnd (fun j => B (f + j) == B (f + k)) k < k)) 25 = 25)
def lnT (s : Ps) (a0 a : Nat) : Pr :=
  if ¬ s.2.2.1 = 0 then (4, tf B n a0, s, a) else
  thn B n s (fNm B n 25 25 a) a (if dst B (tf B n a) then lnS B n (s.1, fun p => B (tf B n a + p) - 97, 1, s.2.2.2.1, s.2.2.2.2) (te B n a) else (3, tf B n a, s, a))
def lnW (s : Ps) (a0 a : Nat) : Pr :=
  if 10 ≤ nw s.1 then (5, tf B n a0, s, a) else
  thn B n s (fNm B n 1 8 a) a (thn B n s (fNu B n 1 99 (te B n a)) (te B n a) (lnS B n (adW B s.1 (tf B n a) (te B n a) (tv B n (te B n a)), s.2.1, s.2.2.1, s.2.2.2.1, s.2.2.2.2) (te B n (te B n a))))
def lnH (s : Ps) (a0 a : Nat) : Pr :=
  if 6 ≤ nsh s.1 then (5, tf B n a0, s, a) else
  thn B n s (fNm B n 1 3 a) a (thn B n s (fNm B n 2 8 (te B n a)) (te B n a) (lnS B n (adS B s.1 (tf B n a) (te B n a) (tf B n (te B n a)) (te B n (te B n a)), s.2.1, s.2.2.1, s.2.2.2.1, s.2.2.2.2) (te B n (te B n a))))
def lnP (s : Ps) (a0 a : Nat) : Pr :=
  if ¬ s.2.2.2.1 = 0 then (4, tf B n a0, s, a) else
  thn B n s (fNu B n 0 9 a) a (thn B n s (fNu B n 0 9 (te B n a)) (te B n a) (lnS B n (sS (sS s.1 2 (tv B n a)) 3 (tv B n (te B n a)), s.2.1, s.2.2.1, 1, s.2.2.2.2) (te B n (te B n a))))
def lnM (s : Ps) (a0 a : Nat) : Pr :=
  if ¬ s.2.2.2.2 = 0 then (4, tf B n a0, s, a) else
  thn B n s (fNu B n 1 99 a) a (thn B n s (fNu B n 1 99 (te B n a)) (te B n a) (thn B n s (fNu B n 1 99 (te B n (te B n a))) (te B n (te B n a)) (lnS B n (sS (sS (sS s.1 4 (tv B n a)) 5 (tv B n (te B n a))) 6 (tv B n (te B n (te B n a))), s.2.1, s.2.2.1, s.2.2.2.1, 1) (te B n (te B n (te B n a))))))
def lnG (s : Ps) (a0 a : Nat) : Pr :=
  if 6 ≤ ngd s.1 then (5, tf B n a0, s, a) else
  thn B n s (fNu B n 0 599 a) a (thn B n s (fNu B n 1 60 (te B n a)) (te B n a) (lnS B n (adG s.1 (tv B n a) (tv B n (te B n a)), s.2.1, s.2.2.1, s.2.2.2.1, s.2.2.2.2) (te B n (te B n a))))
/-- the line whose first token is that at a (which is not the end) -/
def lne (s : Ps) (a : Nat) : Pr :=
  if (tkn B n a).1 = 0 then (1, tf B n a, s, a) else
  if ¬ (tkn B n a).1 = 2 then (2, tf B n a, s, a) else
  match nmF B (tf B n a) (te B n a) with
  | 0 => lnT B n s a (te B n a)
  | 1 => lnW B n s a (te B n a)
  | 2 => lnH B n s a (te B n a)
  | 3 => lnP B n s a (te B n a)
  | 4 => lnM B n s a (te B n a)
  | 5 => lnG B n s a (te B n a)
  | _ => (2, tf B n a, s, a)
/-- k lines at most: fault, place, told, lines -/
def lns : Nat → Ps → Nat → Nat → Nat × Nat × Ps × Nat
  | 0, s, _, l => (0, 0, s, l)
  | k + 1, s, a, l => if (tkn B n a).1 = 1 then (0, 0, s, l) else if (lne B n s a).1 = 0 then lns k (lne B n s a).2.2.1 (lne B n s a).2.2.2 (l + 1) else ((lne B n s a).1, (lne B n s a).2.1, s, l)
end
