section
variable {B : Nat → Nat} {n : Nat} {bytes le : Nat → Int32}
theorem sp_X0_tableLetters {c : Nat → Nat} (hc : ∀ p, p < 25 → c p < 26 ∧ le p = nI (97 + c p)) {post : Int32 → Prop} (h : post (nI (orN (fun p => 2 ^ c p) 25))) : wp_X0_tableLetters le post := by
  unfold wp_X0_tableLetters
  refine fix_0 (fun p => (nI (orN (fun p => 2 ^ c p) p), nI p)) 25 rfl ?_
  intro K p hp hK
  unfold F_X0_tableLetters_4
  dsimp only
  rw [i25, nI_leI (by omega) (by omega)]
  refine ⟨fun q => ?_, fun q => ⟨(vin_n (by omega)).mpr (by omega), ?_⟩⟩
  · have : p = 25 := by omega
    subst this; exact h
  · have hcp := hc p (by omega)
    rw [nI_clamp (by omega), hcp.2, i97, pk_sub (by omega), show 97 + c p - 97 = c p by omega, one_shl (by omega), nI_or, nI_1]
    exact hK (by omega)
theorem sp_X0_takeTable (hn : n ≤ 320) (hB : ∀ k, k < n → B k < 256 ∧ bytes k = sx (B k)) {f e : Nat} (hfe : f ≤ e) (he : e ≤ n) (h25 : e - f = 25) (hl : ∀ k, f ≤ k → k < e → isLt (B k) = true) {post : Int32 → (Nat → Int32) → Prop} (h0 : dst B f = false → ∀ le', post 0 le') (h1 : dst B f = true → ∀ le', (∀ p, p < 25 → le' p = nI (97 + (B (f + p) - 97))) → post 1 le') : wp_X0_takeTable (nI e) (nI f) le bytes post := by
  have hl' : ∀ p, p < 25 → isLt (B (f + p)) = true := fun p hp => hl (f + p) (by omega) (by omega)
  unfold wp_X0_takeTable
  rw [pk_sub hfe, h25]
  refine ⟨fun _ => ?_, fun q => absurd rfl q⟩
  refine fix_iv (fun p v => v.1 = nI p ∧ ∀ q, q < p → v.2 q = nI (97 + (B (f + q) - 97))) 25 (fun K p v hp hI hK => ?_) 0 (by omega) ⟨rfl, fun q hq => absurd hq (Nat.not_lt_zero q)⟩
  obtain ⟨x2, l1⟩ := v
  obtain ⟨e1, e2⟩ := hI
  dsimp only at e1 e2
  subst e1
  unfold F_X0_takeTable_18
  dsimp only
  rw [i25, nI_leI (by omega) (by omega)]
  refine ⟨fun q => ?_, fun q => ?_⟩
  · have : p = 25 := by omega
    subst this
    have hc : ∀ p, p < 25 → B (f + p) - 97 < 26 := fun p hp => by have := isLt_iff.mp (hl' p hp); omega
    refine sp_X0_tableLetters (c := fun p => B (f + p) - 97) (fun p hp => ⟨hc p hp, e2 p hp⟩) ?_
    have hlt : orN (fun p => 2 ^ (B (f + p) - 97)) 25 < 2 ^ 26 := orS_lt (S := fun p => B (f + p) - 97) hc
    have hpc := pc_le (orN (fun p => 2 ^ (B (f + p) - 97)) 25) 26
    refine sp_bitCount hlt ?_
    rw [nI_eq (by omega) (by omega)]
    refine ⟨fun z => h0 ?_ l1, fun z => h1 ((dst_pc hl').mpr z) l1 e2⟩
    cases y : dst B f with
    | false => rfl
    | true => exact absurd ((dst_pc hl').mp y) z
  · have hBk := hB (f + p) (by omega)
    have hl2 := isLt_iff.mp (hl' p (by omega))
    rw [nI_add, nI_clamp (by omega), nI_clamp (by omega), hBk.2, sx_small _ (by omega), nar_b (by omega), nI_1]
    refine ⟨(vin_n (by omega)).mpr (by omega), (vin_n (by omega)).mpr (by omega), hK (by omega) _ ⟨rfl, fun q hq => ?_⟩⟩
    dsimp only
    rcases Nat.lt_or_ge q p with z | z
    · rw [pk_un (by omega)]; exact e2 q z
    · have : q = p := by omega
      subst this; rw [pk_us]; congr 1; omega
end
