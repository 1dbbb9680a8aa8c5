/-! 25 unlike letters -/
def nwp (c : Nat → Nat) (p : Nat) : Nat := if fnd (fun j => c j == c p) p < p then 0 else 1
theorem ind_new (c : Nat → Nat) (l : Nat) : ∀ m, sumN (fun p => if c p = l then nwp c p else 0) m = if fnd (fun p => c p == l) m < m then 1 else 0
  | 0 => rfl
  | m + 1 => by
    have ih := ind_new c l m
    have a := fnd_le (fun p => c p == l) m
    rw [sumN, ih]
    by_cases z : c m = l
    · have en : nwp c m = if fnd (fun p => c p == l) m < m then 0 else 1 := by unfold nwp; rw [z]
      rw [if_pos z, en]
      by_cases q : fnd (fun p => c p == l) m < m
      · have e2 : fnd (fun p => c p == l) (m + 1) = fnd (fun p => c p == l) m := by show (if _ then _ else _) = _; rw [if_pos q]
        rw [if_pos q, if_pos q, e2, if_pos (by omega)]
      · have e2 : fnd (fun p => c p == l) (m + 1) = m := by show (if _ then _ else _) = _; rw [if_neg q, if_pos (by simp [z])]
        rw [if_neg q, if_neg q, e2, if_pos (by omega)]
    · rw [if_neg z]
      by_cases q : fnd (fun p => c p == l) m < m
      · have e2 : fnd (fun p => c p == l) (m + 1) = fnd (fun p => c p == l) m := by show (if _ then _ else _) = _; rw [if_pos q]
        rw [if_pos q, e2, if_pos (by omega)]
      · have e2 : fnd (fun p => c p == l) (m + 1) = m + 1 := by show (if _ then _ else _) = _; rw [if_neg q, if_neg (by simp [z])]
        rw [if_neg q, e2, if_neg (by omega)]
theorem sumN_dm {a x : Nat} : ∀ n, sumN (fun l => if a = l then x else 0) n = if a < n then x else 0
  | 0 => by rw [if_neg (by omega)]; rfl
  | n + 1 => by
    rw [sumN, sumN_dm n]
    by_cases h1 : a < n
    · rw [if_pos h1, if_neg (by omega), if_pos (by omega)]; rfl
    · rw [if_neg h1]
      by_cases h2 : a = n
      · rw [if_pos h2, if_pos (by omega), Nat.zero_add]
      · rw [if_neg h2, if_neg (by omega)]
theorem pc_new {c : Nat → Nat} {m : Nat} (hc : ∀ p, p < m → c p < 26) : pc (orN (fun p => 2 ^ c p) m) 26 = sumN (nwp c) m := by
  have e1 : ∀ k, pc (orN (fun p => 2 ^ c p) m) k = sumN (fun l => if fnd (fun p => c p == l) m < m then 1 else 0) k := fun k => by
    induction k with
    | zero => rfl
    | succ k ih =>
      rw [pc, sumN, ih]
      congr 1
      have b := bit_or (g := c) (l := k) m
      by_cases q : fnd (fun p => c p == k) m < m
      · rw [if_pos q]
        have y := fnd_yes _ _ q
        have y : c (fnd (fun p => c p == k) m) = k := by simpa using y
        have : ¬ orN (fun p => 2 ^ c p) m / 2 ^ k % 2 = 0 := fun z => b.mp z _ q y
        omega
      · rw [if_neg q]
        refine b.mpr (fun j hj e => ?_)
        have := fnd_no (fun p => c p == k) m j (by have := fnd_le (fun p => c p == k) m; omega)
        simp [e] at this
  rw [e1]
  have e2 : sumN (fun l => if fnd (fun p => c p == l) m < m then 1 else 0) 26 = sumN (fun l => sumN (fun p => if c p = l then nwp c p else 0) m) 26 := sumN_cong _ (fun l _ => (ind_new c l m).symm)
  rw [e2, sumN_swap]
  exact sumN_cong _ (fun p hp => by rw [sumN_dm, if_pos (hc p hp)])
theorem nwp_25 {c : Nat → Nat} : ∀ m, sumN (nwp c) m ≤ m ∧ (sumN (nwp c) m = m ↔ ∀ p, p < m → nwp c p = 1)
  | 0 => ⟨Nat.le_refl 0, ⟨fun _ p hp => absurd hp (Nat.not_lt_zero p), fun _ => rfl⟩⟩
  | m + 1 => by
    have ih := nwp_25 (c := c) m
    have h1 : nwp c m ≤ 1 := by unfold nwp; split <;> omega
    rw [sumN]
    refine ⟨by omega, ⟨fun e p hp => ?_, fun h => ?_⟩⟩
    · rcases Nat.lt_or_ge p m with z | z
      · exact ih.2.mp (by omega) p z
      · rw [show p = m by omega]; omega
    · have := ih.2.mpr (fun p hp => h p (by omega)); have := h m (by omega); omega
theorem dst_pc {B : Nat → Nat} {f : Nat} (hl : ∀ p, p < 25 → isLt (B (f + p)) = true) : dst B f = true ↔ pc (orN (fun p => 2 ^ (B (f + p) - 97)) 25) 26 = 25 := by
  have hc : ∀ p, p < 25 → B (f + p) - 97 < 26 := fun p hp => by have := isLt_iff.mp (hl p hp); omega
  rw [pc_new hc, (nwp_25 25).2]
  have eq1 : ∀ k, k < 25 → ∀ j, j ≤ k → fnd (fun i => B (f + i) - 97 == B (f + k) - 97) j = fnd (fun i => B (f + i) == B (f + k)) j := fun k hk j hj => by
    induction j with
    | zero => rfl
    | succ j ih =>
      have e := ih (by omega)
      have a := isLt_iff.mp (hl k hk)
      have b := isLt_iff.mp (hl j (by omega))
      have e3 : (B (f + j) - 97 == B (f + k) - 97) = (B (f + j) == B (f + k)) := by
        rw [Bool.eq_iff_iff, beq_iff_eq, beq_iff_eq]; omega
      show (if _ then _ else _) = (if _ then _ else _)
      rw [e]; simp only [e3]
  unfold dst
  rw [decide_eq_true_iff]
  constructor
  · intro h p hp
    have := fnd_no (fun k => decide (fnd (fun j => B (f + j) == B (f + k)) k < k)) 25 p (by omega)
    have := of_decide_eq_false this
    unfold nwp; rw [eq1 p hp p (Nat.le_refl _), if_neg this]
  · intro h
    refine fnd_none (fun k hk => decide_eq_false (fun z => ?_))
    have := h k hk
    unfold nwp at this
    rw [eq1 k hk k (Nat.le_refl _), if_pos z] at this
    omega
