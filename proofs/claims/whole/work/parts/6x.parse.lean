/-! the class reads tokens -/
def kbN : List (List Nat) := [[116, 97, 98, 108, 101], [119, 111, 114, 100], [115, 104, 111, 114, 116], [115, 108, 105, 112], [116, 105, 109, 101], [103, 117, 97, 114, 100]]
def kbc (k j : Nat) : Nat := (kbN.getD k []).getD j 0
theorem kbc_I : ∀ k, k < 6 → ∀ j, j < kLen.getD k 0 → (kByt.getD k []).getD j 0 = nI (kbc k j) ∧ kbc k j < 128 := by decide
theorem kLen_5 : ∀ k, k < 6 → kLen.getD k 0 ≤ 5 := by decide
def isNm (B : Nat → Nat) (f e k : Nat) : Bool := decide (e - f = kLen.getD k 0 ∧ ∀ j, j < kLen.getD k 0 → B (f + j) = kbc k j)
def fNm (B : Nat → Nat) (n lo hi a : Nat) : Nat := if (tkn B n a).1 = 0 then 1 else if ¬ (tkn B n a).1 = 2 then 2 else if lo ≤ (tkn B n a).2.2.1 - (tkn B n a).2.1 ∧ (tkn B n a).2.2.1 - (tkn B n a).2.1 ≤ hi then 0 else 3
def fNu (B : Nat → Nat) (n lo hi a : Nat) : Nat := if (tkn B n a).1 = 0 then 1 else if ¬ (tkn B n a).1 = 3 then 2 else if lo ≤ (tkn B n a).2.2.2 ∧ (tkn B n a).2.2.2 ≤ hi then 0 else 3
def fSi (B : Nat → Nat) (n a : Nat) : Nat := if (tkn B n a).1 = 0 then 1 else if ¬ (tkn B n a).1 = 4 then 2 else 0
section
variable {B : Nat → Nat} {n a : Nat} {bytes : Nat → Int32} {kd wh at0 to fr va : Int32}
theorem tkn_rng (hn : n ≤ 320) (ha : a ≤ n) : a ≤ (tkn B n a).2.1 ∧ (tkn B n a).2.1 ≤ (tkn B n a).2.2.1 ∧ (tkn B n a).2.2.1 ≤ n ∧ (tkn B n a).1 ≤ 4 ∧ (tkn B n a).2.2.2 < 1000 ∧ ((tkn B n a).1 ≠ 1 → (tkn B n a).2.1 < n) ∧ ((tkn B n a).1 = 2 → (tkn B n a).2.1 < (tkn B n a).2.2.1 ∧ ∀ k, (tkn B n a).2.1 ≤ k → k < (tkn B n a).2.2.1 → isLt (B k) = true) := by
  have hr : a ≤ tkf B n a ∧ tkf B n a ≤ n := rnp_rng (p := fun k => B k == 32) ha
  have r1 := rnp_rng (p := fun k => isLt (B k)) hr.2
  have r2 := rnp_rng (p := fun k => isDg (B k)) hr.2
  unfold tkn
  split
  · exact ⟨hr.1, Nat.le_refl _, hr.2, by simp only; omega, by simp only; omega, fun z => absurd rfl z, fun z => absurd (show (1 : Nat) = 2 from z) (by decide)⟩
  · split
    · exact ⟨hr.1, by simp only; omega, by simp only; omega, by simp only; omega, by simp only; omega, fun _ => by simp only; omega, fun z => absurd (show (4 : Nat) = 2 from z) (by decide)⟩
    · split
      · rename_i q _ y
        refine ⟨hr.1, r1.1, r1.2, by simp only; omega, by simp only; omega, fun _ => by simp only; omega, fun _ => ⟨?_, fun k h1 h2 => rnp_in (p := fun k => isLt (B k)) h1 h2⟩⟩
        rcases Nat.lt_or_ge (tkf B n a) (rnp (fun k => isLt (B k)) n (tkf B n a)) with z | z
        · exact z
        · have e : rnp (fun k => isLt (B k)) n (tkf B n a) = tkf B n a := by omega
          have := rnp_out (p := fun k => isLt (B k)) (n := n) (a := tkf B n a) (by omega)
          rw [e] at this
          have this : isLt (B (tkf B n a)) = false := this
          rw [y] at this; exact absurd this (by decide)
      · split
        · rename_i w
          refine ⟨hr.1, r2.1, r2.2, by simp only; omega, ?_, fun _ => by simp only; omega, fun z => absurd (show (3 : Nat) = 2 from z) (by decide)⟩
          have hl := vlN_lt (B := B) (f := tkf B n a) (rnp (fun k => isDg (B k)) n (tkf B n a) - tkf B n a) (fun j hj => rnp_in (p := fun k => isDg (B k)) (n := n) (a := tkf B n a) (k := tkf B n a + j) (by omega) (by omega))
          have : 10 ^ (rnp (fun k => isDg (B k)) n (tkf B n a) - tkf B n a) ≤ 10 ^ 3 := Nat.pow_le_pow_right (by omega) w.2
          show vlN B _ _ < 1000
          omega
        · exact ⟨hr.1, r2.1, r2.2, by simp only; omega, by simp only; omega, fun _ => by simp only; omega, fun z => absurd (show (0 : Nat) = 2 from z) (by decide)⟩
theorem sp_isToken {k w f : Nat} (hk : k ≤ 4) (hw : w ≤ 4) {post : Int32 → Int32 → Int32 → Prop} (h0 : k = 0 → post 0 1 (nI f)) (h1 : ¬ k = 0 → ¬ k = w → post 0 2 (nI f)) (h2 : ¬ k = 0 → k = w → post 1 kd wh) : wp_X6_isToken kd wh (nI k) (nI f) (nI w) post := by
  unfold wp_X6_isToken wp_X6_fail
  have e0 : nI k = 0 ↔ k = 0 := nI_eq (b := 0) (by omega) (by omega)
  rw [e0, nI_eq (by omega) (by omega)]
  exact ⟨fun q => ⟨fun q2 => h2 q q2, fun q2 => ⟨fun _ => h1 q q2, fun t => absurd rfl t⟩⟩, fun q => ⟨Or.inl rfl, h0 q⟩⟩
theorem sp_isName (hn : n ≤ 320) (hB : ∀ k, k < n → B k < 256 ∧ bytes k = sx (B k)) {f e k : Nat} (hfe : f ≤ e) (he : e ≤ n) (hk : k < 6) {post : Int32 → Prop} (h0 : isNm B f e k = false → post 0) (h1 : isNm B f e k = true → post 1) : wp_X9_isName (nI e) (nI f) bytes k post := by
  have h5 := kLen_5 k hk
  unfold wp_X9_isName
  rw [pk_sub hfe, nI_eq (by omega) (by omega)]
  refine ⟨fun q => ?_, fun q => h0 (by unfold isNm; exact decide_eq_false (fun z => q z.1))⟩
  refine fix_iv (fun j x => x = nI j ∧ ∀ i, i < j → B (f + i) = kbc k i) (kLen.getD k 0) (fun K j x hj hI hK => ?_) 0 (by omega) ⟨rfl, fun i hi => absurd hi (Nat.not_lt_zero i)⟩
  obtain ⟨e1, e2⟩ := hI
  subst e1
  unfold F_X9_isName_20
  dsimp only
  rw [nI_leI (by omega) (by omega)]
  refine ⟨fun z => h1 (by unfold isNm; exact decide_eq_true ⟨q, fun i hi => e2 i (by omega)⟩), fun z => ?_⟩
  have hj' : j < kLen.getD k 0 := by omega
  have hBj := hB (f + j) (by omega)
  have hc := kbc_I k hk j hj'
  rw [nI_add, nI_clamp (by omega), nI_clamp (by omega), hBj.2, hc.1, sx_eq hBj.1 hc.2, nI_1]
  refine ⟨(vin_n (by omega)).mpr (by omega), (vin_n (by omega)).mpr (by omega), fun y => hK hj' _ ⟨rfl, fun i hi => ?_⟩, fun y => h0 (by unfold isNm; exact decide_eq_false (fun z => y (z.2 j hj')))⟩
  rcases Nat.lt_or_ge i j with y2 | y2
  · exact e2 i y2
  · rw [show i = j by omega]; exact y
theorem sp_X6_takeName (hn : n ≤ 320) (hB : ∀ k, k < n → B k < 256 ∧ bytes k = sx (B k)) (ha : a ≤ n) {lo hi : Nat} (hlo : lo < 1000) (hhi : hi < 1000) {post : Int32 → Int32 → Int32 → Int32 → Int32 → Int32 → Int32 → Prop} (h0 : ¬ fNm B n lo hi a = 0 → ∀ to' va', post 0 (nI (fNm B n lo hi a)) (nI (tkn B n a).2.1) (nI (tkn B n a).2.2.1) to' (nI (tkn B n a).2.1) va') (h1 : fNm B n lo hi a = 0 → ∀ to' va', post 1 kd wh (nI (tkn B n a).2.2.1) to' (nI (tkn B n a).2.1) va') : wp_X6_takeName kd wh (nI n) (nI a) to fr va bytes (nI lo) (nI hi) post := by
  have hr := tkn_rng (B := B) hn ha
  unfold wp_X6_takeName B_X6_takeName_38
  refine sp_X9_nextToken hn hB ha (fun va' hv => ?_)
  unfold fNm at h0 h1
  refine sp_isToken (w := 2) (by omega) (by omega) (fun z => ⟨fun y => absurd rfl y, fun _ => ?_⟩) (fun z z2 => ⟨fun y => absurd rfl y, fun _ => ?_⟩) (fun z z2 => ⟨fun _ => ?_, fun y => absurd y (by decide)⟩)
  · rw [if_pos z] at h0; exact h0 (by decide) _ _
  · rw [if_neg z, if_pos z2] at h0; exact h0 (by decide) _ _
  · rw [if_neg z, if_neg (fun y => y z2)] at h0 h1
    rw [pk_sub hr.2.1, nI_ltI (by omega) (by omega), nI_leI (by omega) (by omega)]
    unfold wp_X6_fail
    refine ⟨fun y => ?_, fun y => ⟨fun y2 => ?_, fun y2 => ?_⟩⟩
    · rw [if_neg (by omega)] at h0
      exact ⟨fun _ => h0 (by decide) _ _, fun t => absurd rfl t⟩
    · rw [if_pos (by omega)] at h1; exact h1 rfl _ _
    · rw [if_neg (by omega)] at h0
      exact ⟨fun _ => h0 (by decide) _ _, fun t => absurd rfl t⟩
theorem sp_X6_takeNumber (hn : n ≤ 320) (hB : ∀ k, k < n → B k < 256 ∧ bytes k = sx (B k)) (ha : a ≤ n) {lo hi : Nat} (hlo : lo < 1000) (hhi : hi < 1000) {post : Int32 → Int32 → Int32 → Int32 → Int32 → Int32 → Int32 → Prop} (h0 : ¬ fNu B n lo hi a = 0 → ∀ to' va', post 0 (nI (fNu B n lo hi a)) (nI (tkn B n a).2.1) (nI (tkn B n a).2.2.1) to' (nI (tkn B n a).2.1) va') (h1 : fNu B n lo hi a = 0 → ∀ to', post 1 kd wh (nI (tkn B n a).2.2.1) to' (nI (tkn B n a).2.1) (nI (tkn B n a).2.2.2)) : wp_X6_takeNumber kd wh (nI n) (nI a) to fr va bytes (nI lo) (nI hi) post := by
  have hr := tkn_rng (B := B) hn ha
  unfold wp_X6_takeNumber B_X6_takeNumber_31
  refine sp_X9_nextToken hn hB ha (fun va' hv => ?_)
  unfold fNu at h0 h1
  refine sp_isToken (w := 3) (by omega) (by omega) (fun z => ⟨fun y => absurd rfl y, fun _ => ?_⟩) (fun z z2 => ⟨fun y => absurd rfl y, fun _ => ?_⟩) (fun z z2 => ⟨fun _ => ?_, fun y => absurd y (by decide)⟩)
  · rw [if_pos z] at h0; exact h0 (by decide) _ _
  · rw [if_neg z, if_pos z2] at h0; exact h0 (by decide) _ _
  · rw [if_neg z, if_neg (fun y => y z2)] at h0 h1
    rw [hv z2, nI_ltI (by omega) (by omega), nI_leI (by omega) (by omega)]
    unfold wp_X6_fail
    refine ⟨fun y => ?_, fun y => ⟨fun y2 => ?_, fun y2 => ?_⟩⟩
    · rw [if_neg (by omega)] at h0
      exact ⟨fun _ => h0 (by decide) _ _, fun t => absurd rfl t⟩
    · rw [if_pos (by omega)] at h1; exact h1 rfl _
    · rw [if_neg (by omega)] at h0
      exact ⟨fun _ => h0 (by decide) _ _, fun t => absurd rfl t⟩
theorem sp_X6_takeSign (hn : n ≤ 320) (hB : ∀ k, k < n → B k < 256 ∧ bytes k = sx (B k)) (ha : a ≤ n) {post : Int32 → Int32 → Int32 → Int32 → Int32 → Int32 → Int32 → Prop} (h0 : ¬ fSi B n a = 0 → ∀ to' va', post 0 (nI (fSi B n a)) (nI (tkn B n a).2.1) (nI (tkn B n a).2.2.1) to' (nI (tkn B n a).2.1) va') (h1 : fSi B n a = 0 → ∀ to' va', post 1 kd wh (nI (tkn B n a).2.2.1) to' (nI (tkn B n a).2.1) va') : wp_X6_takeSign kd wh (nI n) (nI a) to fr va bytes post := by
  have hr := tkn_rng (B := B) hn ha
  unfold wp_X6_takeSign
  refine sp_X9_nextToken hn hB ha (fun va' hv => ?_)
  unfold fSi at h0 h1
  refine sp_isToken (w := 4) (by omega) (by omega) (fun z => ⟨Or.inl rfl, ?_⟩) (fun z z2 => ⟨Or.inl rfl, ?_⟩) (fun z z2 => ⟨Or.inr rfl, ?_⟩)
  · rw [if_pos z] at h0; exact h0 (by decide) _ _
  · rw [if_neg z, if_pos z2] at h0; exact h0 (by decide) _ _
  · rw [if_neg z, if_neg (fun y => y z2)] at h1; exact h1 rfl _ _
end
