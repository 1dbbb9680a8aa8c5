/-! the reference takes tokens -/
section
variable {B : Nat → Nat} {n a : Nat} {tape : Nat → Int32} {bra sp he to va : Int32}
theorem sp_next_no {b : Nat} (hb : 1 ≤ b) (hb9 : b ≤ 9) {post : Int32 → Int32 → Int32 → Int32 → Int32 → Int32 → Prop} (h : post (nI b) bra sp he to va) : wp_X12_next (nI n) (nI b) bra sp he to va tape post := by
  unfold wp_X12_next
  rw [i0, nI_leI (by omega) (by omega)]
  exact ⟨fun q => absurd q (by omega), fun _ => h⟩
theorem sp_number_no {b : Nat} (hb : 1 ≤ b) (hb9 : b ≤ 9) {lo hi : Int32} {post : Int32 → Int32 → Int32 → Int32 → Int32 → Int32 → Int32 → Prop} (h : post lo (nI b) bra sp he to va) : wp_X12_number (nI n) (nI b) bra sp he to va tape lo hi post := by
  have e0 : ¬ nI b = 0 := fun z => by have := (nI_eq (b := 0) (by omega) (by omega)).mp z; omega
  unfold wp_X12_number B_X12_number_20 B_X12_number_47 B_X12_number_62
  exact ⟨fun _ => ⟨fun _ => ⟨fun _ => sp_next_no hb hb9 h, fun q => absurd q e0⟩, fun q => absurd q e0⟩, fun q => absurd q e0⟩
/-- a number taken where the token is that at a -/
theorem sp_X12_number (hn : n ≤ 320) (hB : ∀ k, k < n → B k < 256 ∧ tape k = nI (B k)) (ha : a ≤ n) (hk : ¬ (tkn B n a).1 = 0) {lo hi : Nat} (hlo : lo < 1000) (hhi : hi < 1000) {post : Int32 → Int32 → Int32 → Int32 → Int32 → Int32 → Int32 → Prop} (h0 : ¬ fNu B n lo hi a = 0 → ∀ r sp' he' to' va', post r (nI (fNu B n lo hi a)) (nI (tkn B n a).2.1) sp' he' to' va') (h1 : fNu B n lo hi a = 0 → (tkn B n (tkn B n a).2.2.1).1 = 0 → ∀ r sp' to' va', post r 1 (nI (tkn B n (tkn B n a).2.2.1).2.1) sp' (nI (tkn B n (tkn B n a).2.2.1).2.1) to' va') (h2 : fNu B n lo hi a = 0 → ¬ (tkn B n (tkn B n a).2.2.1).1 = 0 → post (nI (tkn B n a).2.2.2) 0 bra (nI (tkn B n (tkn B n a).2.2.1).2.2.1) (nI (tkn B n (tkn B n a).2.2.1).2.1) (nI ((tkn B n (tkn B n a).2.2.1).1 - 1)) (nI (tkn B n (tkn B n a).2.2.1).2.2.2)) : wp_X12_number (nI n) 0 bra (nI (tkn B n a).2.2.1) (nI (tkn B n a).2.1) (nI ((tkn B n a).1 - 1)) (nI (tkn B n a).2.2.2) tape (nI lo) (nI hi) post := by
  have hr := tkn_rng (B := B) hn ha
  have n0 : ∀ {P : Prop}, ¬ (0 : Int32) = 0 → P := fun q => absurd rfl q
  unfold wp_X12_number
  refine ⟨fun q => absurd rfl q, fun _ => ?_⟩
  have e2 : nI ((tkn B n a).1 - 1) = 2 ↔ (tkn B n a).1 = 3 := by rw [i2, nI_eq (by omega) (by omega)]; omega
  rw [e2]
  have bad : ∀ b : Nat, 1 ≤ b → b ≤ 9 → fNu B n lo hi a = b → B_X12_number_47 (nI n) tape (nI lo) (nI b) (nI (tkn B n a).2.1) (nI (tkn B n a).2.2.1) (nI (tkn B n a).2.1) (nI ((tkn B n a).1 - 1)) (nI (tkn B n a).2.2.2) post := fun b b1 b9 e => by
    have e0 : ¬ nI b = 0 := fun z => by have := (nI_eq (b := 0) (by omega) (by omega)).mp z; omega
    rw [e] at h0
    unfold B_X12_number_47 B_X12_number_62
    exact ⟨fun _ => sp_next_no b1 b9 (h0 (by omega) _ _ _ _ _), fun q => absurd q e0⟩
  refine ⟨fun z => ?_, fun z => ?_⟩
  · unfold B_X12_number_20
    refine ⟨fun q => absurd rfl q, fun _ => sp_X12_in (a := nI lo) (b := nI hi) (fun c => ⟨fun q => absurd rfl q, fun _ => ?_⟩) (fun c => ⟨fun _ => ?_, fun q => absurd q (by decide)⟩)⟩
    · unfold wp_X12_fails
      refine ⟨fun q => absurd rfl q, fun _ => bad 3 (by omega) (by omega) ?_⟩
      rw [nI_leI (by omega) (by omega), nI_leI (by omega) (by omega)] at c
      unfold fNu; rw [if_neg hk, if_neg (fun y => y z), if_neg c]
    · rw [nI_leI (by omega) (by omega), nI_leI (by omega) (by omega)] at c
      have ef : fNu B n lo hi a = 0 := by unfold fNu; rw [if_neg hk, if_neg (fun y => y z), if_pos c]
      unfold B_X12_number_47 B_X12_number_62
      exact ⟨fun q => absurd rfl q, fun _ => sp_X12_next hn hB hr.2.2.1 (fun y sp' to' va' => h1 ef y _ _ _ _) (fun y => h2 ef y)⟩
  · unfold wp_X12_fails
    refine ⟨fun q => absurd rfl q, fun _ => ?_⟩
    have ef : fNu B n lo hi a = 2 := by unfold fNu; rw [if_neg hk, if_pos z]
    unfold B_X12_number_20
    exact ⟨fun _ => bad 2 (by omega) (by omega) ef, fun q => absurd q (by decide)⟩
end
