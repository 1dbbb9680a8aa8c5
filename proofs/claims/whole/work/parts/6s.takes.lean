/-! what a saying takes -/
def XL (d : PD) (lw lz : Int32) (lln llt : Nat → Int32) (sw sz : Int32) (sln slt : Nat → Int32) : Prop := XN 8 6 48 (nsh d) (ll d) (lc d) lw lz lln llt ∧ XN 3 6 18 (nsh d) (sl d) (sc d) sw sz sln slt
def MH (d : PD) (sh : Nat → Int32) : Prop := ∀ s, s < nsh d → sh (13 * s + 3) = nI (sl d s) ∧ sh (13 * s + 12) = nI (ll d s) ∧ (∀ k, k < sl d s → sh (13 * s + k) = nI (sc d s k)) ∧ ∀ k, k < ll d s → sh (13 * s + 4 + k) = nI (lc d s k)
def lkN (d : PD) (c : Nat → Nat) (L s : Nat) : Bool := decide (ll d s = L ∧ ∀ k, k < L → lc d s k = c k)
def fsN (d : PD) (c : Nat → Nat) (L : Nat) : Nat := fnd (lkN d c L) (nsh d)
section
variable {d : PD} {T : Nat → Nat} {a L : Nat} {c : Nat → Nat} {lw lz sw sz kk pa ga gu le mo : Int32} {lln llt sln slt by' tp pl st sh ru : Nat → Int32}
theorem sp_isLike (hd : okP d) (hX : XN 8 6 48 (nsh d) (ll d) (lc d) lw lz lln llt) {s : Nat} (hs : s < nsh d) (ha : a + ll d s ≤ 320) (hc : ∀ k, k < ll d s → c k < 26 ∧ by' (a + k) = nI (97 + c k)) {post : Int32 → Prop} (h0 : ¬ (∀ k, k < ll d s → lc d s k = c k) → post 0) (h1 : (∀ k, k < ll d s → lc d s k = c k) → post 1) : wp_X4_isLike 6 48 lw lln llt by' (nI s) (nI a) post := by
  obtain ⟨g1, g2, g3, g4, -, -, -, g8⟩ := hX
  have h8 := (hd.2.2.2.2.2.2.2.1 s hs)
  unfold wp_X4_isLike
  refine fix_iv (fun k x => x = nI k ∧ ∀ j, j < k → lc d s j = c j) (ll d s) (fun K k x hk hI hK => ?_) 0 (by omega) ⟨rfl, fun j hj => absurd hj (by omega)⟩
  obtain ⟨e1, e2⟩ := hI
  subst e1
  unfold F_X4_isLike_3
  dsimp only
  rw [nI_clamp (by omega), (g8 s hs).2.1, nI_leI (by omega) (by omega)]
  refine ⟨(vin_n (by omega)).mpr (by omega), fun q => h1 (fun k' hk' => e2 k' (by omega)), fun q => ?_⟩
  have hk' : k < ll d s := by omega
  have e3 := (g8 s hs).2.2 k hk'
  have h26 := h8.2.2.2.2.2 k hk'
  have hck := hc k hk'
  rw [g1, pk_mul, nI_add, nI_add, nI_clamp (by omega), nI_clamp (by omega), Nat.mul_comm s 8, e3, hck.2, nI_eq (by omega) (by omega), nI_1]
  refine ⟨(vin_n (by omega)).mpr (by omega), (vin_n (by omega)).mpr (by omega), fun z => hK hk' _ ⟨rfl, fun j hj => ?_⟩, fun z => h0 (fun y => z (by rw [y k hk']))⟩
  rcases Nat.lt_or_ge j k with y | y
  · exact e2 j y
  · rw [show j = k by omega]; omega
theorem sp_firstLike (hd : okP d) (hX : XN 8 6 48 (nsh d) (ll d) (lc d) lw lz lln llt) (ha : a + L ≤ 320) (hc : ∀ k, k < L → c k < 26 ∧ by' (a + k) = nI (97 + c k)) {post : Int32 → Prop} (h : post (if fsN d c L < nsh d then nI (fsN d c L) else -1)) : wp_X4_firstLike 6 48 lw lz lln llt by' (nI a) (nI L) post := by
  have h6 := hd.2.1
  unfold wp_X4_firstLike
  refine fix_iv (fun s x => x = nI s ∧ ∀ j, j < s → lkN d c L j = false) (nsh d) (fun K s x hs hI hK => ?_) 0 (by omega) ⟨rfl, fun j hj => absurd hj (by omega)⟩
  obtain ⟨e1, e2⟩ := hI
  subst e1
  unfold F_X4_firstLike_3
  dsimp only
  rw [show (lz ≤ nI s) = (nI (nsh d) ≤ nI s) by rw [hX.2.1], nI_leI (by omega) (by omega)]
  refine ⟨fun q => ?_, fun q => ?_⟩
  · have : fsN d c L = nsh d := fnd_none (fun k hk => e2 k (by omega))
    rw [this, if_neg (by omega)] at h; exact h
  · have hs' : s < nsh d := by omega
    have h8 := (hd.2.2.2.2.2.2.2.1 s hs')
    have next : lkN d c L s = false → K (nI s + 1) := fun e => by
      rw [nI_1]
      refine hK hs' _ ⟨rfl, fun j hj => ?_⟩
      rcases Nat.lt_or_ge j s with y | y
      · exact e2 j y
      · rw [show j = s by omega]; exact e
    rw [nI_clamp (by omega), (hX.2.2.2.2.2.2.2 s hs').2.1, nI_eq (by omega) (by omega)]
    refine ⟨(vin_n (by omega)).mpr (by omega), fun z => next (by unfold lkN; exact decide_eq_false (fun y => z y.1)), fun z => ?_⟩
    subst z
    refine sp_isLike hd hX hs' ha hc (fun z => ⟨fun _ => next (by unfold lkN; exact decide_eq_false (fun y => z y.2)), fun y => absurd rfl y⟩) (fun z => ⟨fun y => absurd y (by decide), fun _ => ?_⟩)
    have : fsN d c (ll d s) = s := fnd_at hs' (by unfold lkN; exact decide_eq_true ⟨rfl, z⟩) e2
    rw [this, if_pos hs'] at h; exact h
theorem sp_shortFor (hd : okP d) (hR : MS d ru) (hM : MH d sh) (ha : a + L ≤ 320) (hc : ∀ k, k < L → c k < 26 ∧ tp (a + k) = nI (97 + c k)) {post : Int32 → Prop} (h : post (if fsN d c L < nsh d then nI (fsN d c L) else -4)) : wp_X12_shortFor ru sh tp (nI a) (nI (a + L)) post := by
  have h6 := hd.2.1
  have v6 : vp_in 6 8 := by unfold vp_in; decide
  have eL : nI (a + L) - nI a = nI L := by rw [pk_sub (by omega)]; congr 1; omega
  unfold wp_X12_shortFor
  refine fix_iv (fun s x => x = nI s ∧ ∀ j, j < s → lkN d c L j = false) (nsh d) (fun K s x hs hI hK => ?_) 0 (by omega) ⟨rfl, fun j hj => absurd hj (by omega)⟩
  obtain ⟨e1, e2⟩ := hI
  subst e1
  unfold F_X12_shortFor_2
  dsimp only
  have e6 : ru 6 = nI (nsh d) := hR.2.2.2.2.2.2.1
  rw [show (6 : Int32).toNatClampNeg = 6 from rfl, e6, nI_leI (by omega) (by omega)]
  refine ⟨v6, fun q => ?_, fun q => ?_⟩
  · have : fsN d c L = nsh d := fnd_none (fun k hk => e2 k (by omega))
    rw [this, if_neg (by omega)] at h; exact h
  · have hs' : s < nsh d := by omega
    have h8 := (hd.2.2.2.2.2.2.2.1 s hs')
    have hMs := hM s hs'
    have next : lkN d c L s = false → K (nI s + 1) := fun e => by
      rw [nI_1]
      refine hK hs' _ ⟨rfl, fun j hj => ?_⟩
      rcases Nat.lt_or_ge j s with y | y
      · exact e2 j y
      · rw [show j = s by omega]; exact e
    have yes : lkN d c L s = true → post (nI s) := fun e => by
      have : fsN d c L = s := fnd_at hs' e e2
      rw [this, if_pos hs'] at h; exact h
    rw [eL, show (13 : Int32) = nI 13 from rfl, show (12 : Int32) = nI 12 from rfl, pk_mul, nI_add, nI_clamp (by omega), hMs.2.1, nI_eq (by omega) (by omega)]
    refine ⟨(vin_n (by omega)).mpr (by omega), fun z => ?_, fun z => ?_⟩
    · refine ⟨1, ?_⟩
      show F_X12_shortFor_41 _ _ _ _ _ _ _ _ _
      unfold F_X12_shortFor_41
      dsimp only
      exact ⟨fun _ => ⟨fun _ => next (by unfold lkN; exact decide_eq_false (fun y => z y.1)), fun y => absurd rfl y⟩, fun y => absurd rfl y⟩
    · refine fix_iv (fun k v => v.2 = nI k ∧ ∃ b : Nat, v.1 = nI b ∧ (b = 0 ∨ b = 1) ∧ (b = 1 ↔ ∀ j, j < k → lc d s j = c j)) L (fun K' k v hk hI hK' => ?_) 0 (by omega) ⟨rfl, 1, rfl, Or.inr rfl, ⟨fun _ j hj => absurd hj (by omega), fun _ => rfl⟩⟩
      obtain ⟨x4, x5⟩ := v
      obtain ⟨f1, b, f2, f3, f4⟩ := hI
      dsimp only at f1 f2
      subst f1; subst f2
      have hb : b < 2 := by omega
      unfold F_X12_shortFor_41
      dsimp only
      rw [eL, i0, nI_eq (by omega) (by omega), nI_leI (by omega) (by omega)]
      have no : b = 0 → lkN d c L s = false := fun e => by
        unfold lkN; refine decide_eq_false (fun y => ?_)
        have := f4.mpr (fun j hj => y.2 j (by omega)); omega
      refine ⟨fun y => ⟨fun _ => next (no y), fun y2 => absurd y y2⟩, fun y => ⟨fun y2 => ⟨fun y3 => absurd y3 y, fun _ => yes ?_⟩, fun y2 => ?_⟩⟩
      · unfold lkN; exact decide_eq_true ⟨z, fun j hj => f4.mp (by omega) j (by omega)⟩
      · have hk' : k < L := by omega
        have h26 := h8.2.2.2.2.2 k (by omega)
        have hck := hc k hk'
        have e3 := hMs.2.2.2 k (by omega)
        rw [show (13 : Int32) = nI 13 from rfl, i4, pk_mul, nI_add, nI_add, nI_add, nI_clamp (by omega), nI_clamp (by omega), e3, hck.2, i97, pk_sub (by omega), show 97 + c k - 97 = c k by omega, nI_eq (by omega) (by omega), nI_1]
        refine ⟨(vin_n (by omega)).mpr (by omega), (vin_n (by omega)).mpr (by omega), fun w => hK' hk' _ ⟨rfl, 0, rfl, Or.inl rfl, ⟨fun t => absurd t (by decide), fun t => absurd (t k (by omega)) w⟩⟩, fun w => hK' hk' _ ⟨rfl, 1, rfl, Or.inr rfl, ⟨fun _ j hj => ?_, fun _ => rfl⟩⟩⟩
        rcases Nat.lt_or_ge j k with y3 | y3
        · exact f4.mp (by omega) j y3
        · rw [show j = k by omega]; exact w
end
