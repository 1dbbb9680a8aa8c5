section
variable {d : PD} {T : Nat → Nat}
theorem orN_bit {f : Nat → Nat} {i : Nat} : ∀ n, (orN f n).testBit i = true ↔ ∃ w, w < n ∧ (f w).testBit i = true
  | 0 => ⟨fun h => by have h : (0 : Nat).testBit i = true := h; rw [Nat.zero_testBit] at h; exact absurd h (by decide), fun ⟨w, hw, _⟩ => absurd hw (Nat.not_lt_zero w)⟩
  | n + 1 => by
    have ih := orN_bit (f := f) (i := i) n
    rw [orN, Nat.testBit_or, Bool.or_eq_true, ih]
    constructor
    · rintro (⟨w, hw, h⟩ | h)
      · exact ⟨w, by omega, h⟩
      · exact ⟨n, by omega, h⟩
    · rintro ⟨w, hw, h⟩
      rcases Nat.lt_or_ge w n with z | z
      · exact Or.inl ⟨w, z, h⟩
      · rw [show w = n by omega] at h; exact Or.inr h
theorem bits_sum (c : Nat) : ∀ n, sumN (fun w => if c.testBit w then 2 ^ w else 0) n = c % 2 ^ n ∧ sumN (fun w => if c.testBit w then 1 else 0) n = pc c n
  | 0 => ⟨by rw [Nat.pow_zero, Nat.mod_one]; rfl, rfl⟩
  | n + 1 => by
    have ih := bits_sum c n
    rw [sumN, sumN, ih.1, ih.2, pc, Nat.mod_pow_succ, Nat.testBit_eq_decide_div_mod_eq]
    have := Nat.mod_two_eq_zero_or_one (c / 2 ^ n)
    rcases this with z | z <;> rw [z] <;> simp
def Kc (d : PD) (T : Nat → Nat) (c n : Nat) : Nat := sumN (fun w => if c.testBit w then kw d T w else 0) n
def Lc (d : PD) (c n : Nat) : Nat := orN (fun w => if c.testBit w then wm d w else 0) n
def Pk (d : PD) (T : Nat → Nat) (c : Nat) : Nat := Kc d T c (nw d) * 1048576 + pc c 26 * 4096 + c
theorem Pk_sum (hd : okP d) {c : Nat} (hc : c < 2 ^ nw d) : sumN (fun w => if c.testBit w then mor d T w else 0) (nw d) = Pk d T c := by
  have h10 := hd.1
  have e : sumN (fun w => if c.testBit w then mor d T w else 0) (nw d) = sumN (fun w => (if c.testBit w then kw d T w else 0) * 1048576 + (if c.testBit w then 1 else 0) * 4096 + (if c.testBit w then 2 ^ w else 0)) (nw d) := sumN_cong _ (fun w _ => by
    split
    · unfold mor; omega
    · rfl)
  have m1 : ∀ (g : Nat → Nat) (k n : Nat), sumN (fun w => g w * k) n = sumN g n * k := fun g k n => by
    induction n with
    | zero => rw [sumN, sumN, Nat.zero_mul]
    | succ n ih => rw [sumN, sumN, ih, Nat.add_mul]
  rw [e, sumN_add, sumN_add, m1, m1, (bits_sum c (nw d)).1, (bits_sum c (nw d)).2, Nat.mod_eq_of_lt hc, ← pc_26 (by omega) hc]
  rfl
theorem Lc_cov (hd : okP d) {c : Nat} : Lc d c (nw d) = alm d ↔ sbt (alm d) (Lc d c (nw d)) := by
  constructor
  · intro h i hi; rw [h]; exact hi
  · intro h
    refine Nat.eq_of_testBit_eq (fun i => ?_)
    cases q : (alm d).testBit i with
    | true => exact h i q
    | false =>
      cases z : (Lc d c (nw d)).testBit i with
      | false => rfl
      | true =>
        obtain ⟨w, hw, e⟩ := (orN_bit _).mp z
        have : (wm d w).testBit i = true := by
          revert e
          by_cases y : c.testBit w = true
          · rw [if_pos y]; exact id
          · rw [if_neg y, Nat.zero_testBit]; intro e; exact absurd e (by decide)
        have := (orN_bit (f := wm d) (nw d)).mpr ⟨w, hw, this⟩
        unfold alm at q; rw [q] at this; exact this.symm
/-- the packed answer is the least among all choices that bring every letter -/
theorem ls_min (hd : okP d) (hcv : cov d T) : (∀ c, c < 2 ^ nw d → Lc d c (nw d) = alm d → ls d T (nw d) (alm d) 0 ≤ Pk d T c) ∧ ∃ c, c < 2 ^ nw d ∧ Lc d c (nw d) = alm d ∧ ls d T (nw d) (alm d) 0 = Pk d T c := by
  have h10 := hd.1
  have tot : ∀ b : Nat → Bool, sf d T b (nw d) = sumN (fun w => if b w then mor d T w else 0) (nw d) ∧ lf d b (nw d) = orN (fun w => if b w then wm d w else 0) (nw d) := fun b => by
    have := sf_sum (d := d) (T := T) (b := b) (nw d) (Nat.le_refl _)
    rw [Nat.sub_self] at this
    have e1 : sumN (fun w => if b w then mor d T w else 0) 0 = 0 := rfl
    have e2 : orN (fun w => if b w then wm d w else 0) 0 = 0 := rfl
    rw [e1, e2, Nat.zero_add, Nat.zero_or] at this
    exact this
  refine ⟨fun c hc hL => ?_, ?_⟩
  · have := ls_le (T := T) (nw d) (alm d) 0 (fun w => c.testBit w) (by rw [(tot _).2]; exact (Lc_cov hd).mp hL)
    rw [(tot _).1, Pk_sum hd hc, Nat.zero_add] at this
    exact this
  · have hall := ls_le (T := T) (nw d) (alm d) 0 (fun _ => true) (by rw [(tot _).2]; intro i hi; exact hi)
    have hb := sumN_le (f := fun w => if true = true then mor d T w else 0) (b := 134217728) (nw d) (fun w hw => by
      have hk := kw_le hd hcv hw
      have hp : 2 ^ w ≤ 2 ^ 10 := Nat.pow_le_pow_right (by omega) (by omega)
      show (if true = true then mor d T w else 0) ≤ _
      rw [if_pos rfl]; unfold mor; omega)
    rw [(tot _).1] at hall
    rcases ls_at (T := T) (nw d) (alm d) 0 (Nat.le_refl _) with z | ⟨b, z1, z2⟩
    · exfalso
      have : NOL = 1099511627776 := rfl
      omega
    · have hcl : orN (fun w => if b w then 2 ^ w else 0) (nw d) < 2 ^ nw d := orN_lt _ (fun w hw => by
        show (if b w then 2 ^ w else 0) < _
        split
        · exact pow_lt hw
        · exact Nat.two_pow_pos _)
      have hcb : ∀ w, w < nw d → (orN (fun w => if b w then 2 ^ w else 0) (nw d)).testBit w = b w := fun w hw => by
        cases y : b w with
        | true =>
          refine (orN_bit _).mpr ⟨w, hw, ?_⟩
          rw [y]; show (2 ^ w).testBit w = true
          rw [Nat.testBit_two_pow]; simp
        | false =>
          cases q : (orN (fun w => if b w then 2 ^ w else 0) (nw d)).testBit w with
          | false => rfl
          | true =>
            obtain ⟨v, hv, e⟩ := (orN_bit _).mp q
            revert e
            by_cases y2 : b v = true
            · rw [if_pos y2, Nat.testBit_two_pow]
              intro e
              have : v = w := by simpa using e
              rw [this, y] at y2; exact absurd y2 (by decide)
            · rw [if_neg y2, Nat.zero_testBit]; intro e; exact absurd e (by decide)
      generalize hce : orN (fun w => if b w then 2 ^ w else 0) (nw d) = c at hcl hcb
      have eL : Lc d c (nw d) = orN (fun w => if b w then wm d w else 0) (nw d) := by
        have cg : ∀ n, n ≤ nw d → orN (fun w => if c.testBit w then wm d w else 0) n = orN (fun w => if b w then wm d w else 0) n := fun n hn => by
          induction n with
          | zero => rfl
          | succ n ih => rw [orN, orN, ih (by omega), hcb n (by omega)]
        exact cg (nw d) (Nat.le_refl _)
      refine ⟨c, hcl, (Lc_cov hd).mpr (by rw [eL, ← (tot b).2]; exact z1), ?_⟩
      rw [z2, Nat.zero_add, (tot b).1, ← Pk_sum hd hcl]
      exact sumN_cong _ (fun w hw => by rw [hcb w hw])
theorem Kc_le (hd : okP d) (hcv : cov d T) (c : Nat) {n : Nat} (hn : n ≤ nw d) : Kc d T c n ≤ 800 := by
  have h10 := hd.1
  have := sumN_le (f := fun w => if c.testBit w then kw d T w else 0) (b := 80) n (fun w hw => by
    show (if c.testBit w then kw d T w else 0) ≤ 80
    split
    · exact kw_le hd hcv (by omega)
    · omega)
  unfold Kc; omega
end
