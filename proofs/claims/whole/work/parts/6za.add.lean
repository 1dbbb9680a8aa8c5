/-! a name added to the class's names -/
/-- the masks beside XN -/
def XMs (n : Nat) (len : Nat → Nat) (ch : Nat → Nat → Nat) (ms : Nat → Int32) : Prop := ∀ w, w < n → ms w = nI (orN (fun k => 2 ^ ch w k) (len w))
section
variable {B : Nat → Nat} {N W nL nC n : Nat} {len len' : Nat → Nat} {ch ch' : Nat → Nat → Nat} {width size most : Int32} {lens lets ms bytes : Nat → Int32}
theorem sp_X4_add (hN : N ≤ 320) (hB : ∀ k, k < N → B k < 256 ∧ bytes k = sx (B k)) (hX : XN W nL nC n len ch width size lens lets) (hm : XMs n len ch ms) (hmost : most = nI nL) (hnL : n < nL) (hnC : W * (n + 1) ≤ nC) {f e : Nat} (hfe : f ≤ e) (he : e ≤ N) (hW : e - f ≤ W) (hl : ∀ k, f ≤ k → k < e → isLt (B k) = true) (h1 : ∀ w, w < n → len' w = len w ∧ ∀ k, ch' w k = ch w k) (h2 : len' n = e - f) (h3 : ∀ k, k < e - f → ch' n k = B (f + k) - 97) {post : Int32 → (Nat → Int32) → (Nat → Int32) → (Nat → Int32) → Prop} (h : ∀ size' lens' ms' lets', XN W nL nC (n + 1) len' ch' width size' lens' lets' → XMs (n + 1) len' ch' ms' → post size' lens' ms' lets') : wp_X4_add nL nL nC most width size (nI e) (nI f) lens ms bytes lets post := by
  obtain ⟨g1, g2, g3, g4, g5, g6, g7, g8⟩ := hX
  have hWn : W * n + W ≤ nC := by rw [Nat.mul_succ] at hnC; exact hnC
  subst hmost
  rw [g1, g2]
  unfold wp_X4_add
  have e0 : nI (e - f) < 0 ↔ False := ⟨fun q => nI_pos (by omega) q, fun q => q.elim⟩
  rw [pk_sub hfe, nI_leI (by omega) (by omega), nI_leI (by omega) (by omega), e0]
  refine ⟨fun q => by omega, fun _ => ⟨fun q => q.elim, fun _ => ⟨fun _ => ?_, fun q => absurd hW q⟩⟩⟩
  refine fix_iv (fun k v => v.1 = nI (orN (fun j => 2 ^ ch' n j) k) ∧ v.2.1 = nI k ∧ (∀ j, j < k → v.2.2 (W * n + j) = nI (97 + ch' n j)) ∧ ∀ j, j < W * n → v.2.2 j = lets j) (e - f) (fun K k v hk hI hK => ?_) 0 (by omega) ⟨rfl, rfl, fun j hj => absurd hj (by omega), fun _ _ => rfl⟩
  obtain ⟨x3, x4, l1⟩ := v
  obtain ⟨k1, k2, k3, k4⟩ := hI
  dsimp only at k1 k2 k3 k4
  subst k1; subst k2
  unfold F_X4_add_39
  dsimp only
  rw [nI_leI (by omega) (by omega)]
  refine ⟨fun q => ?_, fun q => ?_⟩
  · have : k = e - f := by omega
    subst this
    rw [nI_1, nI_clamp (by omega)]
    refine ⟨(vin_n (by omega)).mpr (by omega), (vin_n (by omega)).mpr (by omega), h _ _ _ _ ⟨g1, rfl, by omega, hnC, g5, g6, g7, fun w hw => ?_⟩ (fun w hw => ?_)⟩
    · rcases Nat.lt_or_ge w n with z | z
      · have a := h1 w z
        have b := g8 w z
        rw [a.1, pk_un (by omega)]
        refine ⟨b.1, b.2.1, fun k hk => ?_⟩
        have : W * w + W ≤ W * n := by rw [← Nat.mul_succ]; exact Nat.mul_le_mul_left W z
        rw [k4 _ (by omega), a.2 k]; exact b.2.2 k hk
      · have : w = n := by omega
        subst this
        rw [h2, pk_us]
        exact ⟨hW, rfl, k3⟩
    · rcases Nat.lt_or_ge w n with z | z
      · have a := h1 w z
        rw [a.1, pk_un (by omega), hm w z]
        have ef : (fun k => 2 ^ ch' w k) = fun k => 2 ^ ch w k := by funext k; rw [a.2 k]
        rw [ef]
      · have : w = n := by omega
        subst this
        rw [h2, pk_us]
  · have hk' : k < e - f := by omega
    have hl2 := isLt_iff.mp (hl (f + k) (by omega) (by omega))
    have hBk := hB (f + k) (by omega)
    have h3k := h3 k hk'
    rw [nI_add, nI_clamp (by omega), hBk.2, sx_small _ (by omega), nar_b (by omega), i97, pk_sub hl2.1, ← h3k, one_shl (by omega), nI_or, pk_mul, nI_add, nI_clamp (by rw [Nat.mul_comm]; omega), nI_1, Nat.mul_comm n W]
    refine ⟨(vin_n (by omega)).mpr (by omega), (vin_n (by omega)).mpr (by omega), hK hk' _ ⟨rfl, rfl, fun j hj => ?_, fun j hj => ?_⟩⟩
    · dsimp only
      rcases Nat.lt_or_ge j k with z | z
      · rw [pk_un (by omega)]; exact k3 j z
      · have : j = k := by omega
        subst this; rw [pk_us]; congr 1; omega
    · dsimp only; rw [pk_un (by omega)]; exact k4 j hj
end
