/-! has the table all letters; all is taken: reference side -/
def gP (P : Prop) (x : Int32) : Prop := (x = 1 ∧ P) ∨ (x = 0 ∧ ¬ P)
theorem fix_all {F : (Int32 × Int32 → Prop) → Int32 × Int32 → Prop} {P0 : Prop} {ok : Nat → Prop} {N : Nat} {x : Int32} (hx : gP P0 x) (hstep : ∀ (K : Int32 × Int32 → Prop) (k : Nat) (x1 : Int32), k < N → (x1 = 0 → K (0, nI k + 1)) → (x1 = 1 → ok k → K (1, nI k + 1)) → (x1 = 1 → ¬ ok k → K (0, nI k + 1)) → (x1 = 0 ∨ x1 = 1) → F K (x1, nI k)) (hend : ∀ (K : Int32 × Int32 → Prop) (x1 : Int32), gP (P0 ∧ ∀ k, k < N → ok k) x1 → F K (x1, nI N)) : ∃ m, fixN F m (x, 0) := by
  refine fix_iv (fun k v => v.2 = nI k ∧ gP (P0 ∧ ∀ j, j < k → ok j) v.1) N (fun K k v hk hI hK => ?_) 0 (by omega) ⟨rfl, ?_⟩
  · obtain ⟨x1, x2⟩ := v
    obtain ⟨e1, e2⟩ := hI
    dsimp only at e1 e2
    subst e1
    rcases Nat.lt_or_ge k N with z | z
    · refine hstep K k x1 z (fun e => ?_) (fun e h => ?_) (fun e h => ?_) ?_
      · rw [nI_1]
        refine hK z _ ⟨rfl, Or.inr ⟨rfl, fun q => ?_⟩⟩
        rcases e2 with ⟨f1, f2⟩ | ⟨f1, f2⟩
        · rw [e] at f1; exact absurd f1 (by decide)
        · exact f2 ⟨q.1, fun j hj => q.2 j (by omega)⟩
      · rw [nI_1]
        refine hK z _ ⟨rfl, Or.inl ⟨rfl, ?_⟩⟩
        rcases e2 with ⟨f1, f2⟩ | ⟨f1, f2⟩
        · refine ⟨f2.1, fun j hj => ?_⟩
          rcases Nat.lt_or_ge j k with y | y
          · exact f2.2 j y
          · rw [show j = k by omega]; exact h
        · rw [e] at f1; exact absurd f1 (by decide)
      · rw [nI_1]
        exact hK z _ ⟨rfl, Or.inr ⟨rfl, fun q => h (q.2 k (by omega))⟩⟩
      · rcases e2 with ⟨f1, f2⟩ | ⟨f1, f2⟩
        · exact Or.inr f1
        · exact Or.inl f1
    · have : k = N := by omega
      subst this
      exact hend K x1 e2
  · rcases hx with ⟨f1, f2⟩ | ⟨f1, f2⟩
    · exact Or.inl ⟨f1, f2, fun j hj => absurd hj (Nat.not_lt_zero j)⟩
    · exact Or.inr ⟨f1, fun q => f2 q.1⟩
section
variable {s : Ps} {rr rt rg rs rw0 : Nat → Int32} {tn : Int32}
theorem sp_hasRead {T : Nat → Nat} {l : Nat} (ht : ∀ p, p < 25 → T p < 26 ∧ rt p = nI (T p)) (hl : l < 1000) {post : Int32 → Prop} (h0 : ¬ pidx T l < 25 → post 0) (h1 : pidx T l < 25 → post 1) : wp_X12_hasRead rt (nI l) post := by
  unfold wp_X12_hasRead
  have e1 := fnd_no (fun p => T p == l) 25
  have e2 := fnd_yes (fun p => T p == l) 25
  have e3 := fnd_le (fun p => T p == l) 25
  refine fix_iv (fun k v => v.2 = nI k ∧ gP (pidx T l < k) v.1) 25 (fun K k v hk hI hK => ?_) 0 (by omega) ⟨rfl, Or.inr ⟨rfl, Nat.not_lt_zero _⟩⟩
  obtain ⟨x2, x3⟩ := v
  obtain ⟨f1, f2⟩ := hI
  dsimp only at f1 f2
  subst f1
  unfold F_X12_hasRead_4
  dsimp only
  rw [i25, nI_leI (by omega) (by omega), nI_1]
  refine ⟨fun q => ?_, fun q => ?_⟩
  · have : k = 25 := by omega
    subst this
    rcases f2 with ⟨g1, g2⟩ | ⟨g1, g2⟩
    · exact ⟨Or.inr g1, by rw [g1]; exact h1 g2⟩
    · exact ⟨Or.inl g1, by rw [g1]; exact h0 g2⟩
  · have hT := ht k (by omega)
    rcases f2 with ⟨g1, g2⟩ | ⟨g1, g2⟩
    · subst g1
      exact ⟨fun _ => hK (by omega) _ ⟨rfl, Or.inl ⟨rfl, by omega⟩⟩, fun z => absurd z (by decide)⟩
    · subst g1
      refine ⟨fun z => absurd rfl z, fun _ => ⟨(vin_n (by omega)).mpr (by omega), ?_⟩⟩
      rw [nI_clamp (by omega), hT.2, nI_eq (by omega) (by omega)]
      refine ⟨fun z => hK (by omega) _ ⟨rfl, Or.inr ⟨rfl, fun y => ?_⟩⟩, fun z => hK (by omega) _ ⟨rfl, Or.inl ⟨rfl, ?_⟩⟩⟩
      · have : pidx T l = k := by omega
        have y2 := pidx_T (T := T) (l := l) (by omega)
        rw [this] at y2; exact z y2
      · rcases Nat.lt_or_ge k (pidx T l) with y | y
        · have := e1 k y; simp [z] at this
        · omega
theorem sp_areRead (hs : okPs s) (hM : MP s tn rr rt rg rs rw0) {post : Int32 → Prop} (h0 : ¬ cov s.1 s.2.1 → post 0) (h1 : cov s.1 s.2.1 → post 1) : wp_X12_areRead rr rs rt rw0 post := by
  obtain ⟨x1, x2, x3, x4, x5, x6⟩ := hM
  obtain ⟨⟨g1, g2, g3, g4, g5, g6, g7, g8, g9⟩, hT⟩ := hs
  have hru5 := x1.2.2.2.2.2.1
  have hru6 := x1.2.2.2.2.2.2.1
  have ht : ∀ p, p < 25 → s.2.1 p < 26 ∧ rt p = nI (s.2.1 p) := fun p hp => ⟨hT.1 p hp, x3 p hp⟩
  have one : ∀ {K : Int32 × Int32 → Prop} {k l : Nat} {x : Int32}, l < 26 → (x = 0 → K (0, nI k + 1)) → (x = 1 → pidx s.2.1 l < 25 → K (1, nI k + 1)) → (x = 1 → ¬ pidx s.2.1 l < 25 → K (0, nI k + 1)) → (x = 0 ∨ x = 1) → ¬ x = 0 → wp_X12_hasRead rt (nI l) (fun r => ((r : Int32) = 0 → K (0, nI k + 1)) ∧ (¬ (r : Int32) = 0 → K (1, nI k + 1))) := fun {K k l x} hl a1 a2 a3 a4 a5 => by
    have e : x = 1 := by rcases a4 with z | z
                         · exact absurd z a5
                         · exact z
    exact sp_hasRead ht (by omega) (fun z => ⟨fun _ => a3 e z, fun y => absurd rfl y⟩) (fun z => ⟨fun y => absurd y (by decide), fun _ => a2 e z⟩)
  unfold wp_X12_areRead
  refine fix_iv (fun w v => v.2 = nI w ∧ gP (∀ w', w' < w → ∀ k, k < wl s.1 w' → pidx s.2.1 (wc s.1 w' k) < 25) v.1) (nw s.1) (fun K w v hw hI hK => ?_) 0 (by omega) ⟨rfl, Or.inl ⟨rfl, fun w' hw' => absurd hw' (Nat.not_lt_zero w')⟩⟩
  obtain ⟨y1, y2⟩ := v
  obtain ⟨e1, e2⟩ := hI
  dsimp only at e1 e2
  subst e1
  unfold F_X12_areRead_4
  dsimp only
  have v5 : vp_in 5 8 := by unfold vp_in; decide
  have v6 : vp_in 6 8 := by unfold vp_in; decide
  have hru5 : rr 5 = nI (nw s.1) := hru5
  have hru6 : rr 6 = nI (nsh s.1) := hru6
  rw [show (5 : Int32).toNatClampNeg = 5 from rfl, hru5, nI_leI (by omega) (by omega)]
  refine ⟨v5, fun q => ?_, fun q => ?_⟩
  · have : w = nw s.1 := by omega
    subst this
    refine fix_iv (fun t v => v.2 = nI t ∧ gP ((∀ w', w' < nw s.1 → ∀ k, k < wl s.1 w' → pidx s.2.1 (wc s.1 w' k) < 25) ∧ ∀ t', t' < t → (∀ k, k < sl s.1 t' → pidx s.2.1 (sc s.1 t' k) < 25) ∧ ∀ k, k < ll s.1 t' → pidx s.2.1 (lc s.1 t' k) < 25) v.1) (nsh s.1) (fun K2 t v ht2 hI hK2 => ?_) 0 (by omega) ⟨rfl, ?_⟩
    · obtain ⟨z1, z2⟩ := v
      obtain ⟨f1, f2⟩ := hI
      dsimp only at f1 f2
      subst f1
      unfold F_X12_areRead_74
      dsimp only
      rw [show (6 : Int32).toNatClampNeg = 6 from rfl, hru6, nI_leI (by omega) (by omega)]
      refine ⟨v6, fun q => ?_, fun q => ?_⟩
      · have : t = nsh s.1 := by omega
        subst this
        rcases f2 with ⟨f3, f4⟩ | ⟨f3, f4⟩
        · exact ⟨Or.inr f3, by rw [f3]; exact h1 ⟨f4.1, fun s' hs' => (f4.2 s' hs').1, fun s' hs' => (f4.2 s' hs').2⟩⟩
        · exact ⟨Or.inl f3, by rw [f3]; exact h0 (fun c => f4 ⟨c.1, fun s' hs' => ⟨c.2.1 s' hs', c.2.2 s' hs'⟩⟩)⟩
      · have hb := x5 t (by omega)
        have hb8 := g8 t (by omega)
        refine fix_all (N := sl s.1 t) (ok := fun k => pidx s.2.1 (sc s.1 t k) < 25) f2 (fun K3 k x1' hk a1 a2 a3 a4 => ?_) (fun K3 x1' f5 => ?_)
        · have hl := hb8.2.2.2.2.1 k hk
          unfold F_X12_areRead_87
          dsimp only
          rw [i13, pk_mul, i3, nI_add, nI_clamp (by omega), hb.1, nI_leI (by omega) (by omega), nI_add, nI_clamp (by omega), hb.2.2.1 k hk]
          exact ⟨(vin_n (by omega)).mpr (by omega), fun z => absurd z (by omega), fun _ => ⟨fun z => a1 z, fun z => ⟨(vin_n (by omega)).mpr (by omega), one hl a1 a2 a3 a4 z⟩⟩⟩
        · unfold F_X12_areRead_87
          dsimp only
          rw [i13, pk_mul, i3, nI_add, nI_clamp (by omega), hb.1, nI_leI (by omega) (by omega)]
          refine ⟨(vin_n (by omega)).mpr (by omega), fun _ => ?_, fun z => absurd (Nat.le_refl _) z⟩
          refine fix_all (N := ll s.1 t) (ok := fun k => pidx s.2.1 (lc s.1 t k) < 25) f5 (fun K4 k x1' hk a1 a2 a3 a4 => ?_) (fun K4 x1' f6 => ?_)
          · have hl := hb8.2.2.2.2.2 k hk
            unfold F_X12_areRead_138
            dsimp only
            rw [i13, pk_mul, i12, nI_add, nI_clamp (by omega), hb.2.1, nI_leI (by omega) (by omega), i4, nI_add, nI_add, nI_clamp (by omega), hb.2.2.2 k hk]
            exact ⟨(vin_n (by omega)).mpr (by omega), fun z => absurd z (by omega), fun _ => ⟨fun z => a1 z, fun z => ⟨(vin_n (by omega)).mpr (by omega), one hl a1 a2 a3 a4 z⟩⟩⟩
          · unfold F_X12_areRead_138
            dsimp only
            rw [i13, pk_mul, i12, nI_add, nI_clamp (by omega), hb.2.1, nI_leI (by omega) (by omega)]
            refine ⟨(vin_n (by omega)).mpr (by omega), fun _ => ?_, fun z => absurd (Nat.le_refl _) z⟩
            rw [nI_1]
            refine hK2 (by omega) _ ⟨rfl, ?_⟩
            dsimp only
            have iff : (((( ∀ w', w' < nw s.1 → ∀ k, k < wl s.1 w' → pidx s.2.1 (wc s.1 w' k) < 25) ∧ ∀ t', t' < t → (∀ k, k < sl s.1 t' → pidx s.2.1 (sc s.1 t' k) < 25) ∧ ∀ k, k < ll s.1 t' → pidx s.2.1 (lc s.1 t' k) < 25) ∧ ∀ k, k < sl s.1 t → pidx s.2.1 (sc s.1 t k) < 25) ∧ ∀ k, k < ll s.1 t → pidx s.2.1 (lc s.1 t k) < 25) ↔ (∀ w', w' < nw s.1 → ∀ k, k < wl s.1 w' → pidx s.2.1 (wc s.1 w' k) < 25) ∧ ∀ t', t' < t + 1 → (∀ k, k < sl s.1 t' → pidx s.2.1 (sc s.1 t' k) < 25) ∧ ∀ k, k < ll s.1 t' → pidx s.2.1 (lc s.1 t' k) < 25 := by
              constructor
              · rintro ⟨⟨⟨b1, b2⟩, b3⟩, b4⟩
                refine ⟨b1, fun t' ht' => ?_⟩
                rcases Nat.lt_or_ge t' t with y | y
                · exact b2 t' y
                · rw [show t' = t by omega]; exact ⟨b3, b4⟩
              · rintro ⟨b1, b2⟩
                exact ⟨⟨⟨b1, fun t' ht' => b2 t' (by omega)⟩, (b2 t (by omega)).1⟩, (b2 t (by omega)).2⟩
            unfold gP at f6 ⊢
            rw [iff] at f6
            exact f6
    · rcases e2 with ⟨f1, f2⟩ | ⟨f1, f2⟩
      · exact Or.inl ⟨f1, f2, fun j hj => absurd hj (Nat.not_lt_zero j)⟩
      · exact Or.inr ⟨f1, fun c => f2 c.1⟩
  · have hb := x6.2 w (by omega)
    have hb8 := g7 w (by omega)
    refine fix_all (N := wl s.1 w) (ok := fun k => pidx s.2.1 (wc s.1 w k) < 25) e2 (fun K3 k x1' hk a1 a2 a3 a4 => ?_) (fun K3 x1' f5 => ?_)
    · have hl := hb8.2.2.2.2 k hk
      unfold F_X12_areRead_16
      dsimp only
      rw [i10, pk_mul, i8, nI_add, nI_clamp (by omega), hb.1, nI_leI (by omega) (by omega), nI_add, nI_clamp (by omega), hb.2.2 k hk]
      exact ⟨(vin_n (by omega)).mpr (by omega), fun z => absurd z (by omega), fun _ => ⟨fun z => a1 z, fun z => ⟨(vin_n (by omega)).mpr (by omega), one hl a1 a2 a3 a4 z⟩⟩⟩
    · unfold F_X12_areRead_16
      dsimp only
      rw [i10, pk_mul, i8, nI_add, nI_clamp (by omega), hb.1, nI_leI (by omega) (by omega)]
      refine ⟨(vin_n (by omega)).mpr (by omega), fun _ => ?_, fun z => absurd (Nat.le_refl _) z⟩
      rw [nI_1]
      refine hK (by omega) _ ⟨rfl, ?_⟩
      dsimp only
      have iff : ((∀ w', w' < w → ∀ k, k < wl s.1 w' → pidx s.2.1 (wc s.1 w' k) < 25) ∧ ∀ k, k < wl s.1 w → pidx s.2.1 (wc s.1 w k) < 25) ↔ ∀ w', w' < w + 1 → ∀ k, k < wl s.1 w' → pidx s.2.1 (wc s.1 w' k) < 25 := by
        constructor
        · rintro ⟨b1, b2⟩ w' hw'
          rcases Nat.lt_or_ge w' w with y | y
          · exact b1 w' y
          · rw [show w' = w by omega]; exact b2
        · intro b
          exact ⟨fun w' hw' => b w' (by omega), b w (by omega)⟩
      unfold gP at f5 ⊢
      rw [iff] at f5
      exact f5
end
