/-! tokens -/
def rnp (p : Nat → Bool) (n a : Nat) : Nat := a + fnd (fun k => !p (a + k)) (n - a)
section
variable {p : Nat → Bool} {n a : Nat}
theorem rnp_rng (ha : a ≤ n) : a ≤ rnp p n a ∧ rnp p n a ≤ n := by
  have := fnd_le (fun k => !p (a + k)) (n - a); unfold rnp; omega
theorem rnp_in {k : Nat} (h1 : a ≤ k) (h2 : k < rnp p n a) : p k = true := by
  have := fnd_no (fun k => !p (a + k)) (n - a) (k - a) (by unfold rnp at h2; omega)
  rw [show a + (k - a) = k by omega] at this
  simpa using this
theorem rnp_out (h : rnp p n a < n) : p (rnp p n a) = false := by
  have := fnd_yes (fun k => !p (a + k)) (n - a) (by unfold rnp at h; omega)
  have h2 : (!p (rnp p n a)) = true := this
  simpa using h2
/-- a loop that runs on while p -/
theorem fix_rn {F : (Int32 → Prop) → Int32 → Prop} (ha : a ≤ n) (hn : n ≤ 320) (hgo : ∀ (K : Int32 → Prop) k, a ≤ k → k < n → p k = true → K (nI (k + 1)) → F K (nI k)) (hout : ∀ K : Int32 → Prop, F K (nI (rnp p n a))) : ∃ m, fixN F m (nI a) := by
  have hr := rnp_rng (p := p) ha
  refine fix_at (fun k => nI k) a (rnp p n a) hr.1 rfl ?_
  intro K k hk1 hk2 hK
  rcases Nat.lt_or_ge k (rnp p n a) with z | z
  · exact hgo K k hk1 (by omega) (rnp_in hk1 z) (hK z)
  · rw [show k = rnp p n a by omega]; exact hout K
end
def isLt (b : Nat) : Bool := decide (97 ≤ b ∧ b < 123)
def isDg (b : Nat) : Bool := decide (48 ≤ b ∧ b < 58)
def vlN (B : Nat → Nat) (f : Nat) : Nat → Nat
  | 0 => 0
  | k + 1 => 10 * vlN B f k + (B (f + k) - 48)
def tkf (B : Nat → Nat) (n a : Nat) : Nat := rnp (fun k => B k == 32) n a
def tke (B : Nat → Nat) (n f : Nat) : Nat := if isLt (B f) then rnp (fun k => isLt (B k)) n f else rnp (fun k => isDg (B k)) n f
/-- kind (0 none, 1 end, 2 name, 3 number, 4 sign), from, behind, value -/
def tkn (B : Nat → Nat) (n a : Nat) : Nat × Nat × Nat × Nat :=
  if ¬ tkf B n a < n then (1, tkf B n a, tkf B n a, 0)
  else if B (tkf B n a) = 59 then (4, tkf B n a, tkf B n a + 1, 0)
  else if isLt (B (tkf B n a)) then (2, tkf B n a, rnp (fun k => isLt (B k)) n (tkf B n a), 0)
  else if tkf B n a < rnp (fun k => isDg (B k)) n (tkf B n a) ∧ rnp (fun k => isDg (B k)) n (tkf B n a) - tkf B n a ≤ 3 then (3, tkf B n a, rnp (fun k => isDg (B k)) n (tkf B n a), vlN B (tkf B n a) (rnp (fun k => isDg (B k)) n (tkf B n a) - tkf B n a))
  else (0, tkf B n a, rnp (fun k => isDg (B k)) n (tkf B n a), 0)
section
variable {B : Nat → Nat} {n a : Nat} {bytes tape : Nat → Int32}
theorem isLt_iff {b : Nat} : isLt b = true ↔ 97 ≤ b ∧ b < 123 := by unfold isLt; exact decide_eq_true_iff
theorem isDg_iff {b : Nat} : isDg b = true ↔ 48 ≤ b ∧ b < 58 := by unfold isDg; exact decide_eq_true_iff
theorem isLt_no {b : Nat} (h : isLt b = false) : ¬ (97 ≤ b ∧ b < 123) := fun q => by rw [isLt_iff.mpr q] at h; exact absurd h (by decide)
theorem isDg_no {b : Nat} (h : isDg b = false) : ¬ (48 ≤ b ∧ b < 58) := fun q => by rw [isDg_iff.mpr q] at h; exact absurd h (by decide)
theorem sp_letX {b : Nat} (hb : b < 256) {post : Int32 → Prop} (h0 : isLt b = false → post 0) (h1 : isLt b = true → post 1) : wp_X9_isLetter (sx b) post := by
  refine sp_X9_isLetter (fun q => h0 ?_) (fun q => h1 (isLt_iff.mpr ((sx_let hb).mp q)))
  cases z : isLt b with
  | false => rfl
  | true => exact absurd ((sx_let hb).mpr (isLt_iff.mp z)) q
theorem vlN_lt {f : Nat} (k : Nat) (h : ∀ j, j < k → isDg (B (f + j)) = true) : vlN B f k < 10 ^ k := by
  induction k with
  | zero => show 0 < 1; omega
  | succ k ih =>
    have := ih (fun j hj => h j (by omega))
    have := isDg_iff.mp (h k (by omega))
    rw [vlN, Nat.pow_succ]; omega
theorem md1000 {x : Nat} (h : x < 1000000) : nI x - nI x / 1000 * 1000 = nI (x % 1000) := by rw [i1000, pk_rem (by omega) (by omega) (by omega)]
theorem sp_X9_nextNumber (hn : n ≤ 320) (hB : ∀ k, k < n → B k < 256 ∧ bytes k = sx (B k)) {f : Nat} (hf : f ≤ n) {tok va : Int32} {post : Int32 → Int32 → Int32 → Prop} (h : ∀ va', ((f < rnp (fun k => isDg (B k)) n f ∧ rnp (fun k => isDg (B k)) n f - f ≤ 3) → va' = nI (vlN B f (rnp (fun k => isDg (B k)) n f - f))) → post (nI (rnp (fun k => isDg (B k)) n f)) (if f < rnp (fun k => isDg (B k)) n f ∧ rnp (fun k => isDg (B k)) n f - f ≤ 3 then 3 else 0) va') : wp_X9_nextNumber (nI n) (nI f) tok (nI f) va bytes post := by
  have hr := rnp_rng (p := fun k => isDg (B k)) hf
  generalize he : rnp (fun k => isDg (B k)) n f = e at h hr
  have hin : ∀ k, f ≤ k → k < e → isDg (B k) = true := fun k h1 h2 => rnp_in (p := fun k => isDg (B k)) h1 (by rw [he]; exact h2)
  have hout : e < n → isDg (B e) = false := fun q => by have := rnp_out (p := fun k => isDg (B k)) (n := n) (a := f) (by rw [he]; exact q); rw [he] at this; exact this
  have fin : ∀ x, (e - f ≤ 3 → x = vlN B f (e - f)) → B_X9_nextNumber_85 (nI f) (nI e) (nI x) post := fun x hx => by
    unfold B_X9_nextNumber_85
    rw [nI_leI (by omega) (by omega), pk_sub (by omega), i3, nI_ltI (by omega) (by omega)]
    refine ⟨fun q => ?_, fun q => ⟨fun q2 => ?_, fun q2 => ?_⟩⟩
    · have := h (nI x) (fun z => absurd z.1 (by omega)); rw [if_neg (by omega)] at this; exact this
    · have := h (nI x) (fun z => absurd z.2 (by omega)); rw [if_neg (by omega)] at this; exact this
    · have := h (nI x) (fun z => by rw [hx z.2]); rw [if_pos (by omega)] at this; exact this
  unfold wp_X9_nextNumber
  refine fix_iv (fun k v => v.1 = nI (f + k) ∧ ∃ x, v.2 = nI x ∧ x < 1000 ∧ (k ≤ 3 → x = vlN B f k)) (e - f) (fun K k v hk hI hK => ?_) 0 (by omega) ⟨rfl, 0, rfl, by omega, fun _ => rfl⟩
  obtain ⟨x1, x2⟩ := v
  obtain ⟨e1, x, e2, e3, e4⟩ := hI
  dsimp only at e1 e2
  subst e1; subst e2
  unfold F_X9_nextNumber_5
  dsimp only
  rw [nI_leI (by omega) (by omega)]
  have ex : k = e - f → B_X9_nextNumber_85 (nI f) (nI (f + k)) (nI x) post := fun z => by
    rw [show f + k = e by omega]
    exact fin x (fun w => by rw [e4 (by omega), z])
  refine ⟨fun q => ex (by omega), fun q => ⟨(vin_n (by omega)).mpr (by omega), ?_⟩⟩
  have hBk := hB (f + k) (by omega)
  have v : vp_in (nI (f + k)) 320 := (vin_n (by omega)).mpr (by omega)
  rw [nI_clamp (by omega), hBk.2, i48, sx_lt hBk.1 (by decide), i57, lt_sx hBk.1 (by decide)]
  rcases Nat.lt_or_ge k (e - f) with z | z
  · have hd := isDg_iff.mp (hin (f + k) (by omega) (by omega))
    refine ⟨fun w => absurd w (by omega), fun _ => ⟨v, fun w => absurd w (by omega), fun _ => ⟨v, ?_⟩⟩⟩
    rw [sx_small _ (by omega), i10, pk_mul, nI_add, pk_sub (by omega), md1000 (by omega), nI_1]
    refine hK z _ ⟨rfl, _, rfl, by omega, fun w => ?_⟩
    have e5 := e4 (by omega)
    have hl := vlN_lt (B := B) (f := f) (k + 1) (fun j hj => hin (f + j) (by omega) (by omega))
    have h10 : 10 ^ (k + 1) ≤ 10 ^ 3 := Nat.pow_le_pow_right (by omega) w
    rw [vlN] at hl ⊢
    rw [e5]; omega
  · have hd := isDg_no (hout (by omega))
    rw [show e = f + k by omega] at hd
    refine ⟨fun _ => ex (by omega), fun w => ⟨v, fun _ => ex (by omega), fun w2 => absurd hd (by omega)⟩⟩
theorem sp_X9_nextToken (hn : n ≤ 320) (hB : ∀ k, k < n → B k < 256 ∧ bytes k = sx (B k)) (ha : a ≤ n) {tok fr va : Int32} {post : Int32 → Int32 → Int32 → Int32 → Prop} (h : ∀ va', ((tkn B n a).1 = 3 → va' = nI (tkn B n a).2.2.2) → post (nI (tkn B n a).2.2.1) (nI (tkn B n a).1) (nI (tkn B n a).2.1) va') : wp_X9_nextToken (nI n) (nI a) tok fr va bytes post := by
  have hr := rnp_rng (p := fun k => B k == 32) ha
  have core : B_X9_nextToken_38 (nI n) bytes (nI (tkf B n a)) tok va post := by
    have hr : a ≤ tkf B n a ∧ tkf B n a ≤ n := hr
    unfold tkn at h
    unfold B_X9_nextToken_38
    rw [nI_ltI (by omega) (by omega)]
    refine ⟨fun q => ?_, fun q => ?_⟩
    · rw [if_neg (by omega)] at h
      have v : vp_in (nI (tkf B n a)) 320 := (vin_n (by omega)).mpr (by omega)
      have hBf := hB _ q
      rw [nI_clamp (by omega), hBf.2, i59, sx_eq hBf.1 (by decide)]
      refine ⟨v, fun z => ⟨v, sp_letX hBf.1 (fun y => ⟨fun _ => sp_X9_nextNumber hn hB (by omega) (fun va' hv => ?_), fun w => absurd rfl w⟩) (fun y => ⟨fun w => absurd w (by decide), fun _ => ?_⟩)⟩, fun z => ?_⟩
      · rw [if_neg z, if_neg (by rw [y]; decide)] at h
        by_cases w : tkf B n a < rnp (fun k => isDg (B k)) n (tkf B n a) ∧ rnp (fun k => isDg (B k)) n (tkf B n a) - tkf B n a ≤ 3
        · rw [if_pos w] at h ⊢; exact h va' (fun _ => hv w)
        · rw [if_neg w] at h ⊢; exact h va' (fun t => absurd (show (0 : Nat) = 3 from t) (by decide))
      · rw [if_neg z, if_pos y] at h
        have hr2 := rnp_rng (p := fun k => isLt (B k)) hr.2
        refine fix_rn (p := fun k => isLt (B k)) (n := n) hr.2 hn (fun K k h1 h2 h3 hK => ?_) (fun K => ?_)
        · have hBk := hB k h2
          unfold F_X9_nextToken_117
          dsimp only
          rw [nI_leI (by omega) (by omega), nI_clamp (by omega), hBk.2, nI_1]
          exact ⟨fun t => absurd t (by omega), fun _ => ⟨(vin_n (by omega)).mpr (by omega), sp_letX hBk.1 (fun t => by rw [h3] at t; exact absurd t (by decide)) (fun _ => ⟨fun t => absurd t (by decide), fun _ => hK⟩)⟩⟩
        · have hp := h va (fun t => absurd (show (2 : Nat) = 3 from t) (by decide))
          unfold F_X9_nextToken_117
          dsimp only
          rw [nI_leI (by omega) (by omega), nI_clamp (by omega)]
          refine ⟨fun _ => hp, fun t => ⟨(vin_n (by omega)).mpr (by omega), ?_⟩⟩
          have hBk := hB (rnp (fun k => isLt (B k)) n (tkf B n a)) (by omega)
          rw [hBk.2]
          exact sp_letX hBk.1 (fun _ => ⟨fun _ => hp, fun w => absurd rfl w⟩) (fun w => absurd (rnp_out (p := fun k => isLt (B k)) (n := n) (a := tkf B n a) (by omega)) (by rw [w]; decide))
      · rw [if_pos z] at h; rw [nI_1]; exact h va (fun t => absurd (show (4 : Nat) = 3 from t) (by decide))
    · rw [if_pos (by omega)] at h
      exact h va (fun t => absurd (show (1 : Nat) = 3 from t) (by decide))
  unfold wp_X9_nextToken
  refine fix_rn (p := fun k => B k == 32) (n := n) ha hn (fun K k h1 h2 h3 hK => ?_) (fun K => ?_)
  · have hBk := hB k h2
    unfold F_X9_nextToken_0
    dsimp only
    rw [nI_leI (by omega) (by omega), nI_clamp (by omega), hBk.2, show (32 : Int32) = nI 32 from rfl, sx_eq hBk.1 (by decide), nI_1]
    have e : B k = 32 := by simpa using h3
    exact ⟨fun t => absurd t (by omega), fun _ => ⟨(vin_n (by omega)).mpr (by omega), fun t => absurd e t, fun _ => hK⟩⟩
  · unfold F_X9_nextToken_0
    dsimp only
    have hr : a ≤ tkf B n a ∧ tkf B n a ≤ n := hr
    rw [show rnp (fun k => B k == 32) n a = tkf B n a from rfl, nI_leI (by omega) (by omega)]
    refine ⟨fun _ => core, fun t => ⟨(vin_n (show tkf B n a < 2 ^ 31 by omega)).mpr (by omega), fun _ => core, fun w => ?_⟩⟩
    exfalso
    have hBk := hB (tkf B n a) (by omega)
    have w : bytes (nI (tkf B n a)).toNatClampNeg = 32 := w
    rw [nI_clamp (by omega), hBk.2, show (32 : Int32) = nI 32 from rfl, sx_eq hBk.1 (by decide)] at w
    have := rnp_out (p := fun k => B k == 32) (n := n) (a := a) (by show tkf B n a < n; omega)
    have : (B (tkf B n a) == 32) = false := this
    rw [w] at this; exact absurd this (by decide)
end
