def cuL (k : Nat) : Nat := [0, 5, 9, 14, 18, 22, 27].getD k 0
def leL (j : Nat) : Nat := [116, 97, 98, 108, 101, 119, 111, 114, 100, 115, 104, 111, 114, 116, 115, 108, 105, 112, 116, 105, 109, 101, 103, 117, 97, 114, 100].getD j 0
def MK (cu lt : Nat → Int32) : Prop := (∀ k, k < 7 → cu k = nI (cuL k)) ∧ ∀ j, j < 27 → lt j = nI (leL j)
theorem cuL_k : ∀ k, k < 6 → cuL k + kLen.getD k 0 = cuL (k + 1) ∧ cuL (k + 1) ≤ 27 := by decide
theorem leL_k : ∀ k, k < 6 → ∀ j, j < kLen.getD k 0 → leL (cuL k + j) = kbc k j ∧ kbc k j < 128 := by decide
def nmF (B : Nat → Nat) (f e : Nat) : Nat := fnd (isNm B f e) 6
section
variable {B : Nat → Nat} {n a : Nat} {tape cu lt p1 : Nat → Int32} {bra sp he to va : Int32}
theorem sp_nameHere (hn : n ≤ 320) (hB : ∀ k, k < n → B k < 256 ∧ tape k = nI (B k)) (hK : MK cu lt) {f e kd : Nat} (hfe : f ≤ e) (he : e ≤ n) (hkd : kd ≤ 4) (hk0 : ¬ kd = 0) {post : Int32 → Prop} (h0 : ¬ kd = 2 → post (-4)) (h1 : kd = 2 → post (if nmF B f e < 6 then nI (nmF B f e) else -4)) : wp_X12_nameHere (nI n) (nI e) (nI f) (nI (kd - 1)) cu tape lt post := by
  have eL : nI e - nI f = nI (e - f) := pk_sub hfe
  have e1 : nI (kd - 1) = 1 ↔ kd = 2 := by rw [i1, nI_eq (by omega) (by omega)]; omega
  unfold wp_X12_nameHere
  refine fix_iv (fun s x => x = nI s ∧ ∀ j, j < s → isNm B f e j = false) 6 (fun K s x hs hI hK' => ?_) 0 (by omega) ⟨rfl, fun j hj => absurd hj (by omega)⟩
  obtain ⟨ex, e2⟩ := hI
  subst ex
  unfold F_X12_nameHere_2
  dsimp only
  rw [i6, nI_leI (by omega) (by omega), e1]
  refine ⟨fun q => ?_, fun q => ⟨fun z => h0 z, fun z => ?_⟩⟩
  · by_cases z : kd = 2
    · have : nmF B f e = 6 := fnd_none (fun k hk => e2 k (by omega))
      have := h1 z
      rw [if_neg (by omega)] at this; exact this
    · exact h0 z
  · have hs' : s < 6 := by omega
    have hc := cuL_k s hs'
    have h5 := kLen_5 s hs'
    have h1 := h1 z
    have next : isNm B f e s = false → K (nI s + 1) := fun ee => by
      rw [nI_1]
      refine hK' hs' _ ⟨rfl, fun j hj => ?_⟩
      rcases Nat.lt_or_ge j s with y | y
      · exact e2 j y
      · rw [show j = s by omega]; exact ee
    have yes : isNm B f e s = true → post (nI s) := fun ee => by
      have : nmF B f e = s := fnd_at hs' ee e2
      rw [this, if_pos hs'] at h1; exact h1
    rw [eL, nI_1, nI_clamp (by omega), nI_clamp (by omega), hK.1 _ (by omega), hK.1 _ (by omega), pk_sub (by omega), nI_eq (by omega) (by omega)]
    refine ⟨(vin_n (by omega)).mpr (by omega), (vin_n (by omega)).mpr (by omega), fun w => ?_, fun w => ?_⟩
    · refine ⟨1, ?_⟩
      show F_X12_nameHere_51 _ _ _ _ _ _ _ _ _ _ _
      unfold F_X12_nameHere_51
      dsimp only
      exact ⟨fun _ => ⟨fun _ => next (by unfold isNm; exact decide_eq_false (fun y => w (by omega))), fun y => absurd rfl y⟩, fun y => absurd rfl y⟩
    · refine fix_iv (fun k v => v.2 = nI k ∧ ∃ b : Nat, v.1 = nI b ∧ (b = 0 ∨ b = 1) ∧ (b = 1 ↔ ∀ j, j < k → B (f + j) = kbc s j)) (e - f) (fun K2 k v hk hI hK2 => ?_) 0 (by omega) ⟨rfl, 1, rfl, Or.inr rfl, ⟨fun _ j hj => absurd hj (by omega), fun _ => rfl⟩⟩
      obtain ⟨x4, x5⟩ := v
      obtain ⟨f1, b, f2, f3, f4⟩ := hI
      dsimp only at f1 f2
      subst f1; subst f2
      have hb : b < 2 := by omega
      have eb : nI b = 0 ↔ b = 0 := nI_eq (b := 0) (by omega) (by omega)
      unfold F_X12_nameHere_51
      dsimp only
      rw [eL, eb, nI_leI (by omega) (by omega)]
      have no : b = 0 → isNm B f e s = false := fun ee => by
        unfold isNm; refine decide_eq_false (fun y => ?_)
        have := f4.mpr (fun j hj => y.2 j (by omega)); omega
      refine ⟨fun y => ⟨fun _ => next (no y), fun y2 => absurd y y2⟩, fun y => ⟨fun y2 => ⟨fun y3 => absurd y3 y, fun _ => yes ?_⟩, fun y2 => ?_⟩⟩
      · unfold isNm; exact decide_eq_true ⟨by omega, fun j hj => f4.mp (by omega) j (by omega)⟩
      · have hk' : k < e - f := by omega
        have hl := leL_k s hs' k (by omega)
        have hBk := hB (f + k) (by omega)
        rw [nI_add]
        refine sp_byteAt hn hB (by omega) ?_
        unfold bA
        rw [if_pos (by omega), nI_clamp (by omega), hK.1 _ (by omega), nI_add, nI_clamp (by omega), hK.2 _ (by omega), hl.1, nI_eq (by omega) (by omega), nI_1]
        refine ⟨(vin_n (by omega)).mpr (by omega), (vin_n (by omega)).mpr (by omega), fun w2 => hK2 hk' _ ⟨rfl, 0, rfl, Or.inl rfl, ⟨fun t => absurd t (by decide), fun t => absurd (t k (by omega)) w2⟩⟩, fun w2 => hK2 hk' _ ⟨rfl, 1, rfl, Or.inr rfl, ⟨fun _ j hj => ?_, fun _ => rfl⟩⟩⟩
        rcases Nat.lt_or_ge j k with y3 | y3
        · exact f4.mp (by omega) j y3
        · rw [show j = k by omega]; exact w2
theorem sp_X12_takeName (hn : n ≤ 320) (hB : ∀ k, k < n → B k < 256 ∧ tape k = nI (B k)) (ha : a ≤ n) (hk : ¬ (tkn B n a).1 = 0) {N o lo hi : Nat} (hlo : lo < 1000) (hhi : hi < 1000) (ho : o + hi ≤ N) (hN : N < 1000) {post : Int32 → Int32 → Int32 → (Nat → Int32) → Prop} (h0 : ¬ fNm B n lo hi a = 0 → ∀ r, post r (nI (fNm B n lo hi a)) (nI (tkn B n a).2.1) p1) (h1 : fNm B n lo hi a = 0 → ∀ p1', (∀ k, k < (tkn B n a).2.2.1 - (tkn B n a).2.1 → p1' (o + k) = nI (B ((tkn B n a).2.1 + k) - 97)) → (∀ j, j < o → p1' j = p1 j) → (∀ j, o + ((tkn B n a).2.2.1 - (tkn B n a).2.1) ≤ j → p1' j = p1 j) → post (nI ((tkn B n a).2.2.1 - (tkn B n a).2.1)) 0 bra p1') : wp_X12_takeName N (nI n) 0 bra (nI (tkn B n a).2.2.1) (nI (tkn B n a).2.1) (nI ((tkn B n a).1 - 1)) p1 tape (nI o) (nI lo) (nI hi) post := by
  have hr := tkn_rng (B := B) hn ha
  have e1 : nI ((tkn B n a).1 - 1) = 1 ↔ (tkn B n a).1 = 2 := by rw [i1, nI_eq (by omega) (by omega)]; omega
  have eL : nI (tkn B n a).2.2.1 - nI (tkn B n a).2.1 = nI ((tkn B n a).2.2.1 - (tkn B n a).2.1) := pk_sub hr.2.1
  have bad : ∀ b : Nat, 1 ≤ b → b ≤ 9 → fNm B n lo hi a = b → ∃ m, fixN (F_X12_takeName_60 N (nI n) (nI (tkn B n a).2.1) tape (nI o) (nI ((tkn B n a).2.2.1 - (tkn B n a).2.1)) (nI b) (nI (tkn B n a).2.1) post) m (0, p1) := fun b b1 b9 e => by
    have e0 : ¬ nI b = 0 := fun z => by have := (nI_eq (b := 0) (by omega) (by omega)).mp z; omega
    rw [e] at h0
    refine ⟨1, ?_⟩
    show F_X12_takeName_60 _ _ _ _ _ _ _ _ _ _ _
    unfold F_X12_takeName_60
    exact ⟨fun _ => h0 (by omega) _, fun _ => ⟨fun _ => h0 (by omega) _, fun q => absurd q e0⟩⟩
  unfold wp_X12_takeName B_X12_takeName_20
  rw [e1, eL]
  refine ⟨fun q => absurd rfl q, fun _ => ⟨fun z => ⟨fun q => absurd rfl q, fun _ => sp_X12_in (a := nI lo) (b := nI hi) (fun c => ⟨fun q => absurd rfl q, fun _ => ?_⟩) (fun c => ⟨fun _ => ?_, fun q => absurd q (by decide)⟩)⟩, fun z => ?_⟩⟩
  · unfold wp_X12_fails
    rw [nI_leI (by omega) (by omega), nI_leI (by omega) (by omega)] at c
    exact ⟨fun q => absurd rfl q, fun _ => bad 3 (by omega) (by omega) (by unfold fNm; rw [if_neg hk, if_neg (fun y => y z), if_neg c])⟩
  · rw [nI_leI (by omega) (by omega), nI_leI (by omega) (by omega)] at c
    have ef : fNm B n lo hi a = 0 := by unfold fNm; rw [if_neg hk, if_neg (fun y => y z), if_pos c]
    have hl := (hr.2.2.2.2.2.2 z).2
    refine fix_iv (fun k v => v.1 = nI k ∧ (∀ i, i < k → v.2 (o + i) = nI (B ((tkn B n a).2.1 + i) - 97)) ∧ (∀ j, j < o → v.2 j = p1 j) ∧ ∀ j, o + k ≤ j → v.2 j = p1 j) ((tkn B n a).2.2.1 - (tkn B n a).2.1) (fun K k v hk2 hI hK => ?_) 0 (by omega) ⟨rfl, fun i hi => absurd hi (by omega), fun _ _ => rfl, fun _ _ => rfl⟩
    obtain ⟨x6, q1⟩ := v
    obtain ⟨g1, g2, g3, g4⟩ := hI
    dsimp only at g1 g2 g3 g4
    subst g1
    unfold F_X12_takeName_60
    dsimp only
    rw [nI_leI (by omega) (by omega)]
    refine ⟨fun y => ?_, fun y => ⟨fun q => absurd rfl q, fun _ => ?_⟩⟩
    · have : k = (tkn B n a).2.2.1 - (tkn B n a).2.1 := by omega
      rw [this] at g2 g4
      exact h1 ef q1 g2 g3 g4
    · have hl2 := isLt_iff.mp (hl ((tkn B n a).2.1 + k) (by omega) (by omega))
      rw [nI_add, nI_add]
      refine sp_byteAt hn hB (by omega) ?_
      unfold bA
      rw [if_pos (by omega), i97, pk_sub hl2.1, nI_clamp (by omega), nI_1]
      refine ⟨(vin_n (by omega)).mpr (by omega), hK (by omega) _ ⟨rfl, fun i hi => ?_, fun j hj => ?_, fun j hj => ?_⟩⟩
      · dsimp only
        rcases Nat.lt_or_ge i k with t | t
        · rw [pk_un (by omega)]; exact g2 i t
        · have : i = k := by omega
          subst this; rw [pk_us]
      · dsimp only; rw [pk_un (by omega)]; exact g3 j hj
      · dsimp only; rw [pk_un (by omega)]; exact g4 j (by omega)
  · unfold wp_X12_fails
    have ef : fNm B n lo hi a = 2 := by unfold fNm; rw [if_neg hk, if_pos z]
    exact ⟨fun q => absurd rfl q, fun _ => ⟨fun _ => bad 2 (by omega) (by omega) ef, fun q => absurd q (by decide)⟩⟩
end
