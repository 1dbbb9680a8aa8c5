/-! fractions in lowest terms -/
def fibp : Nat → Nat × Nat
  | 0 => (0, 1)
  | n + 1 => ((fibp n).2, (fibp n).1 + (fibp n).2)
def fib (n : Nat) : Nat := (fibp n).1
theorem fib_s (n : Nat) : fib (n + 2) = fib n + fib (n + 1) := rfl
def Eu : Nat → Nat → Nat → Prop
  | 0, _, b => b = 0
  | n + 1, a, b => b = 0 ∨ Eu n b (a % b)
theorem Eu_0 : ∀ n a, Eu n a 0
  | 0, _ => rfl
  | _ + 1, _ => Or.inl rfl
theorem Eu_s : ∀ n a b, Eu n a b → Eu (n + 1) a b
  | 0, a, b, h => Or.inl h
  | n + 1, a, b, h => by
    rcases h with h | h
    · exact Or.inl h
    · exact Or.inr (Eu_s n _ _ h)
theorem lame : ∀ n a b, b < a → (a < fib (n + 2) ∨ b < fib (n + 1)) → Eu n a b
  | 0, a, b, h, h2 => by
    have e1 : fib (0 + 1) = 1 := rfl
    have e2 : fib (0 + 2) = 1 := rfl
    show b = 0
    omega
  | n + 1, a, b, h, h2 => by
    by_cases q : b = 0
    · exact Or.inl q
    · refine Or.inr (lame n b (a % b) (Nat.mod_lt _ (by omega)) ?_)
      have e := fib_s (n + 1)
      rcases Nat.lt_or_ge b (fib (n + 2)) with z | z
      · exact Or.inl z
      · right
        have h3 : a < fib (n + 1 + 2) := by
          rcases h2 with w | w
          · exact w
          · exact absurd (show b < fib (n + 2) from w) (by omega)
        have : a % b ≤ a - b := by
          rw [Nat.mod_eq_sub_mod (by omega)]; exact Nat.mod_le _ _
        have e' : fib (n + 1 + 2) = fib (n + 1) + fib (n + 1 + 1) := e
        have z' : fib (n + 1 + 1) ≤ b := z
        omega
theorem Eu_any : ∀ n a b, b ≤ n → Eu n a b
  | 0, a, b, h => by show b = 0; omega
  | n + 1, a, b, h => by
    by_cases q : b = 0
    · exact Or.inl q
    · exact Or.inr (Eu_any n _ _ (by have := Nat.mod_lt a (show 0 < b by omega); omega))
def low (t b : Nat) (x : Int32) : Int64 := if x = 0 then lN (t / Nat.gcd t b) else lN (b / Nat.gcd t b)
theorem sp_X11_lowest {t b : Nat} {x : Int32} {post : Int64 → Prop} (ht : t < 7540113804746346429) (hb : b < 2 ^ 63) (hb0 : 0 < b) (h : post (low t b x)) : wp_X11_lowest (lN t) (lN b) x post := by
  have hE : Eu 91 b t := by
    by_cases q : t = 0
    · exact Or.inl q
    · exact Or.inr (lame 90 t (b % t) (Nat.mod_lt _ (by omega)) (Or.inl ht))
  unfold wp_X11_lowest
  refine fix_iv (fun i v => ∃ p q, v = (lN p, lN q, nI i) ∧ p < 2 ^ 63 ∧ q < 2 ^ 63 ∧ Eu (91 - i) p q ∧ Nat.gcd p q = Nat.gcd t b) 91 (fun K i v hi hI hK => ?_) 0 (by omega) ⟨b, t, rfl, hb, by omega, hE, Nat.gcd_comm b t⟩
  obtain ⟨p, q, e, hp, hq, hE, hg⟩ := hI
  subst e
  have hg0 : 0 < Nat.gcd t b := Nat.gcd_pos_of_pos_right t hb0
  unfold F_X11_lowest_9
  dsimp only
  rw [show (100 : Int32) = nI 100 from rfl, nI_leI (by omega) (by omega)]
  refine ⟨fun c => by omega, fun _ => ?_⟩
  rw [show (0 : Int64) = lN 0 from rfl, pk_lEQ hq (by omega)]
  refine ⟨fun z => ?_, fun z => ⟨z, ?_⟩⟩
  · subst z
    rw [Nat.gcd_zero_right] at hg
    subst hg
    unfold B_X11_lowest_44
    rw [show (0 : Int64) = lN 0 from rfl, pk_lLT (by omega) hp, pk_lEQ hp (by omega), pk_lDiv hb hg0 hp, pk_lDiv (by omega) hg0 hp]
    unfold low at h
    refine ⟨fun _ => ⟨fun x0 => ⟨by omega, by rw [if_neg x0] at h; exact h⟩, fun x0 => ⟨by omega, by rw [if_pos x0] at h; exact h⟩⟩, fun z => absurd hg0 z⟩
  · rw [pk_lRem hp (by omega) hq, nI_1]
    have hlt := Nat.mod_lt p (show 0 < q by omega)
    by_cases i91 : i < 91
    · refine hK i91 _ ⟨q, p % q, rfl, hq, by omega, ?_, ?_⟩
      · rw [show 91 - i = (91 - (i + 1)) + 1 by omega] at hE
        rcases hE with w | w
        · exact absurd w z
        · exact w
      · rw [Nat.gcd_comm, ← Nat.gcd_rec, Nat.gcd_comm]; exact hg
    · have : i = 91 := by omega
      subst this
      exact absurd hE z
theorem sp_X12_lowest {t b : Nat} {x : Int32} {post : Int64 → Prop} (ht : t < 2 ^ 63) (hb : b < 2 ^ 63) (hb0 : 0 < b) (h : post (low t b x)) : wp_X12_lowest (lN t) (lN b) x post := by
  have hg0 : 0 < Nat.gcd t b := Nat.gcd_pos_of_pos_right t hb0
  unfold wp_X12_lowest
  refine fix_iv (fun i v => ∃ p q, v = (lN p, lN q) ∧ p < 2 ^ 63 ∧ q < 2 ^ 63 ∧ Eu (b - i) p q ∧ Nat.gcd p q = Nat.gcd t b) b (fun K i v hi hI hK => ?_) 0 (by omega) ⟨t, b, rfl, ht, hb, Eu_any _ _ _ (by omega), rfl⟩
  obtain ⟨p, q, e, hp, hq, hE, hg⟩ := hI
  subst e
  unfold F_X12_lowest_6
  dsimp only
  rw [show (0 : Int64) = lN 0 from rfl, pk_lEQ hq (by omega), pk_lEQ hp (by omega)]
  refine ⟨fun z => ?_, fun z => ⟨z, ?_⟩⟩
  · subst z
    rw [Nat.gcd_zero_right] at hg
    subst hg
    rw [pk_lDiv hb hg0 hp, pk_lDiv ht hg0 hp]
    unfold low at h
    exact ⟨fun x0 => ⟨by omega, by rw [if_neg x0] at h; exact h⟩, fun x0 => ⟨by omega, by rw [if_pos x0] at h; exact h⟩⟩
  · rw [pk_lRem hp (by omega) hq]
    have hlt := Nat.mod_lt p (show 0 < q by omega)
    by_cases ib : i < b
    · refine hK ib _ ⟨q, p % q, rfl, hq, by omega, ?_, ?_⟩
      · rw [show b - i = (b - (i + 1)) + 1 by omega] at hE
        rcases hE with w | w
        · exact absurd w z
        · exact w
      · rw [Nat.gcd_comm, ← Nat.gcd_rec, Nat.gcd_comm]; exact hg
    · rw [show b - i = 0 by omega] at hE
      exact absurd hE z
theorem low_mul {t b k : Nat} {x : Int32} (hk : 0 < k) : low (k * t) (k * b) x = low t b x := by
  unfold low
  rw [Nat.gcd_mul_left, Nat.mul_div_mul_left _ _ hk, Nat.mul_div_mul_left _ _ hk]
theorem sp_X11_power {b n : Nat} {post : Int64 → Prop} (hn : n < 2 ^ 31) (h : post (lN (b ^ n))) : wp_X11_power (lN b) (nI n) post := by
  unfold wp_X11_power
  refine fix_0 (fun i => (lN (b ^ i), nI i)) n rfl ?_
  intro K i hi hK
  unfold F_X11_power_5
  dsimp only
  rw [nI_leI (by omega) (by omega), lN_mul, nI_1, ← Nat.pow_succ]
  refine ⟨fun c => ?_, fun c => hK (by omega)⟩
  have : i = n := by omega
  subst this; exact h
theorem sp_X12_twenties {n : Nat} {post : Int64 → Prop} (hn : n < 2 ^ 31) (h : post (lN (20 ^ n))) : wp_X12_twenties (nI n) post := by
  unfold wp_X12_twenties
  refine fix_0 (fun i => (lN (20 ^ i), nI i)) n rfl ?_
  intro K i hi hK
  unfold F_X12_twenties_4
  dsimp only
  rw [nI_leI (by omega) (by omega), show (20 : Int64) = lN 20 from rfl, lN_mul, nI_1, ← Nat.pow_succ]
  refine ⟨fun c => ?_, fun c => hK (by omega)⟩
  have : i = n := by omega
  subst this; exact h
theorem p20_lt {n : Nat} (h : n ≤ 14) : 20 ^ n < 7540113804746346429 := Nat.lt_of_le_of_lt (Nat.pow_le_pow_right (by omega) h) (by decide)
theorem p20_pos (n : Nat) : 0 < 20 ^ n := Nat.pow_pos (by omega)
/-! a pipe -/
def jst (k p : Nat) : Nat := k * p * (20 - p) ^ (k - 1)
theorem jst_le {k p : Nat} (hk : 1 ≤ k) (hk2 : k ≤ 10) (hp : p ≤ 20) : jst k p ≤ 200 * 20 ^ 9 := by
  unfold jst
  refine Nat.mul_le_mul (by have := Nat.mul_le_mul hk2 hp; omega) ?_
  exact Nat.le_trans (Nat.pow_le_pow_left (by omega) _) (Nat.pow_le_pow_right (by omega) (by omega))
theorem sp_X11_justOne {k p : Nat} {post : Int64 → Prop} (hk : 1 ≤ k) (hk2 : k ≤ 10) (hp : p ≤ 20) (h : post (lN (jst k p))) : wp_X11_justOne (nI k) (nI p) post := by
  unfold wp_X11_justOne
  have h200 : k * p ≤ 200 := by have := Nat.mul_le_mul hk2 hp; omega
  rw [show (20 : Int32) = nI 20 from rfl, pk_sub hp, i1, pk_sub hk, pk_mul, nI_l (by omega), nI_l (by omega)]
  refine sp_X11_power (by omega) ?_
  rw [lN_mul]; exact h
theorem sp_X12_through {k p : Nat} {post : Int64 → Prop} (hk : 1 ≤ k) (hk2 : k ≤ 10) (hp : p ≤ 20) (h : post (lN (jst k p))) : wp_X12_through (nI k) (nI p) post := by
  unfold wp_X12_through
  rw [nI_l (by omega), nI_l (by omega), lN_mul]
  refine fix_at (fun i => (lN (k * p * (20 - p) ^ (i - 1)), nI i)) 1 k hk (by rw [Nat.sub_self, Nat.pow_zero, Nat.mul_one]; rfl) ?_
  intro K i hi1 hi hK
  unfold F_X12_through_9
  dsimp only
  rw [nI_leI (by omega) (by omega), show (20 : Int32) = nI 20 from rfl, pk_sub hp, nI_l (by omega), lN_mul, nI_1, show k * p * (20 - p) ^ (i - 1) * (20 - p) = k * p * (20 - p) ^ (i + 1 - 1) by rw [Nat.mul_assoc (k * p), ← Nat.pow_succ, show (i - 1).succ = i + 1 - 1 by omega]]
  refine ⟨fun c => ?_, fun c => hK (by omega)⟩
  have : i = k := by omega
  subst this; exact h
theorem sim_pipe (x y z : Int32) : wp_X11_pipe x y z (fun r => wp_X12_pipe x y z (fun r' => r = r')) := by
  have ex : vp_in (x - 1) 10 ↔ 0 ≤ x - 1 ∧ x - 1 < 10 := vin_I (by decide)
  have ey : vp_in y 21 ↔ 0 ≤ y ∧ y < 21 := vin_I (by decide)
  have no : ¬ (vp_in (x - 1) 10 ∧ vp_in y 21 ∧ vp_in z 2) → wp_X12_pipe x y z (fun r' => -1 = r') := fun c => by
    unfold wp_X12_pipe
    exact sp_in1 (n := 10) (b := 10) (by decide) rfl (fun _ => ⟨fun _ => rfl, fun q => absurd rfl q⟩) (fun q1 => ⟨fun q => absurd q (by decide), fun _ => sp_in0 (b := 20) (n := 21) (by decide) le_20 (fun _ => ⟨fun _ => rfl, fun q => absurd rfl q⟩) (fun q2 => ⟨fun q => absurd q (by decide), fun _ => sp_in0 (b := 1) (n := 2) (by decide) le_1 (fun _ => ⟨fun _ => rfl, fun q => absurd rfl q⟩) (fun q3 => absurd ⟨q1, q2, q3⟩ c)⟩)⟩)
  unfold wp_X11_pipe
  refine ⟨fun c => no (fun q => ?_), fun c => ⟨fun c2 => no (fun q => ?_), fun c2 => ⟨fun c3 => no (fun q => ?_), fun c3 => ⟨fun c4 => no (fun q => ?_), fun c4 => sp_X11_isHalf (fun c5 => ⟨fun q => absurd rfl q, fun _ => no (fun q => c5 q.2.2)⟩) (fun c5 => ⟨fun _ => ?_, fun q => absurd q (by decide)⟩)⟩⟩⟩⟩
  · have := ex.mp q.1; grind
  · have := ex.mp q.1; grind
  · have := ey.mp q.2.1; grind
  · have := ey.mp q.2.1; grind
  · have hx : vp_in (x - 1) 10 := ex.mpr (by grind)
    have hy : vp_in y 21 := ey.mpr (by grind)
    obtain ⟨k, hk1, hk2, rfl⟩ := vin1_ex (by decide) hx
    obtain ⟨p, hp, rfl⟩ := vin_ex (by decide) hy
    have hj := jst_le hk1 hk2 (show p ≤ 20 by omega)
    have hj2 : 200 * 20 ^ 9 < 7540113804746346429 := by decide
    have hq := p20_lt (n := k) (by omega)
    refine sp_X11_justOne hk1 hk2 (by omega) (sp_X11_power (b := 20) (by omega) (sp_X11_lowest (by omega) (by omega) (p20_pos k) ?_))
    unfold wp_X12_pipe
    exact sp_in1 (n := 10) (b := 10) (by decide) rfl (fun q => absurd hx q) (fun _ => ⟨fun q => absurd q (by decide), fun _ => sp_in0 (b := 20) (n := 21) (by decide) le_20 (fun q => absurd hy q) (fun _ => ⟨fun q => absurd q (by decide), fun _ => sp_in0 (b := 1) (n := 2) (by decide) le_1 (fun q => absurd c5 q) (fun _ => ⟨fun q => absurd q (by decide), fun _ => sp_X12_through hk1 hk2 (by omega) (sp_X12_twenties (by omega) (sp_X12_lowest (by omega) (by omega) (p20_pos k) rfl))⟩)⟩)⟩)
def bsp (k : Nat) : Nat → Nat
  | 0 => 0
  | p + 1 => if jst k (bsp k p) < jst k (p + 1) then p + 1 else bsp k p
theorem bsp_le (k : Nat) : ∀ p, bsp k p ≤ p
  | 0 => Nat.le_refl 0
  | p + 1 => by have := bsp_le k p; unfold bsp; split <;> omega
theorem sim_turns (x : Int32) : wp_X11_turns x (fun r => wp_X12_turns x (fun r' => r = r')) := by
  have ex : vp_in (x - 1) 10 ↔ 0 ≤ x - 1 ∧ x - 1 < 10 := vin_I (by decide)
  have no : ¬ vp_in (x - 1) 10 → wp_X12_turns x (fun r' => -1 = r') := fun c => by
    unfold wp_X12_turns
    exact sp_in1 (n := 10) (b := 10) (by decide) rfl (fun _ => ⟨fun q => absurd rfl q, fun _ => rfl⟩) (fun q => absurd q c)
  have hj2 : 200 * 20 ^ 9 < 2 ^ 63 := by decide
  unfold wp_X11_turns
  refine ⟨fun c => no (fun q => ?_), fun c => ⟨fun c2 => ?_, fun c2 => no (fun q => ?_)⟩⟩
  · have := ex.mp q; grind
  · have hx : vp_in (x - 1) 10 := ex.mpr (by grind)
    obtain ⟨k, hk1, hk2, rfl⟩ := vin1_ex (by decide) hx
    have hj := fun p hp => jst_le (p := p) hk1 hk2 hp
    refine fix_0 (fun p => (nI (bsp k p), lN (jst k (bsp k p)), nI (p + 1))) 20 (by show (0, 0, 1) = (nI 0, lN (jst k 0), nI 1); rw [show jst k 0 = 0 by unfold jst; simp]; rfl) ?_
    intro K p hp hK
    have hb := bsp_le k p
    unfold F_X11_turns_20
    dsimp only
    rw [show (20 : Int32) = nI 20 from rfl, nI_ltI (by omega) (by omega)]
    refine ⟨fun c' => ?_, fun c' => sp_X11_justOne hk1 hk2 (by omega) ?_⟩
    · have : p = 20 := by omega
      subst this
      unfold wp_X12_turns
      refine sp_in1 (n := 10) (b := 10) (by decide) rfl (fun q => absurd hx q) (fun _ => ⟨fun _ => ?_, fun q => absurd q (by decide)⟩)
      refine fix_0 (fun p => (nI (bsp k p), nI (p + 1))) 20 rfl ?_
      intro K p hp hK
      have hb := bsp_le k p
      unfold F_X12_turns_18
      dsimp only
      rw [show (20 : Int32) = nI 20 from rfl, nI_ltI (by omega) (by omega)]
      refine ⟨fun c' => ?_, fun c' => sp_X12_through hk1 hk2 (by omega) (sp_X12_through hk1 hk2 (by omega) ?_)⟩
      · have : p = 20 := by omega
        subst this; rfl
      · have hK := hK (by omega)
        have l1 := hj (p + 1) (by omega); have l2 := hj (bsp k p) (by omega)
        rw [pk_lLT (by omega) (by omega), nI_1]
        rw [bsp] at hK
        exact ⟨fun q => by rw [if_neg q] at hK; exact hK, fun q => by rw [if_pos q] at hK; exact hK⟩
    · have hK := hK (by omega)
      have l1 := hj (p + 1) (by omega); have l2 := hj (bsp k p) (by omega)
      rw [pk_lLT (by omega) (by omega), nI_1]
      rw [bsp] at hK
      exact ⟨fun q => by rw [if_neg q] at hK; exact hK, fun q => by rw [if_pos q] at hK; exact hK⟩
  · have := ex.mp q; grind
