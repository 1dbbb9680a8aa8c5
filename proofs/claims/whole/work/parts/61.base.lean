/-! tests of both sides -/
theorem vin_I {x : Int32} {n : Nat} (hn : n < 2 ^ 31) : vp_in x n ↔ 0 ≤ x ∧ x < nI n := by
  rw [vp_in_iff, Int32.le_iff_toInt_le, Int32.lt_iff_toInt_lt, nI_T hn]; rfl
theorem vin_ex {x : Int32} {n : Nat} (hn : n < 2 ^ 31) (h : vp_in x n) : ∃ k, k < n ∧ x = nI k := vp_in_of h hn
theorem nI_nn {n : Nat} (h : n < 2 ^ 31) : (0 : Int32) ≤ nI n := nI_pos' h
section
variable {x : Int32} {post : Int32 → Prop}
theorem sp_X11_isPlace (h0 : ¬ vp_in x 25 → post 0) (h1 : vp_in x 25 → post 1) : wp_X11_isPlace x post := by
  have e : vp_in x 25 ↔ 0 ≤ x ∧ x < 25 := vin_I (by decide)
  unfold wp_X11_isPlace; grind
theorem sp_X11_isHearable (h0 : ¬ vp_in x 7 → post 0) (h1 : vp_in x 7 → post 1) : wp_X11_isHearable x post := by
  have e : vp_in x 7 ↔ 0 ≤ x ∧ x < 7 := vin_I (by decide)
  unfold wp_X11_isHearable; grind
theorem sp_X11_isCell (h0 : ¬ vp_in x 11 → post 0) (h1 : vp_in x 11 → post 1) : wp_X11_isCell x post := by
  have e : vp_in x 11 ↔ 0 ≤ x ∧ x < 11 := vin_I (by decide)
  unfold wp_X11_isCell; grind
theorem sp_X11_isMinute (h0 : ¬ vp_in x 600 → post 0) (h1 : vp_in x 600 → post 1) : wp_X11_isMinute x post := by
  have e : vp_in x 600 ↔ 0 ≤ x ∧ x < 600 := vin_I (by decide)
  unfold wp_X11_isMinute; grind
theorem sp_X11_isImage (h0 : ¬ vp_in x 2 → post 0) (h1 : vp_in x 2 → post 1) : wp_X11_isImage x post := by
  have e : vp_in x 2 ↔ 0 ≤ x ∧ x < 2 := vin_I (by decide)
  unfold wp_X11_isImage; grind
theorem sp_X11_isSheet (h0 : ¬ vp_in x 4 → post 0) (h1 : vp_in x 4 → post 1) : wp_X11_isSheet x post := by
  have e : vp_in x 4 ↔ 0 ≤ x ∧ x < 4 := vin_I (by decide)
  unfold wp_X11_isSheet; grind
theorem sp_X11_isLane (h0 : ¬ vp_in x 3 → post 0) (h1 : vp_in x 3 → post 1) : wp_X11_isLane x post := by
  have e : vp_in x 3 ↔ 0 ≤ x ∧ x < 3 := vin_I (by decide)
  unfold wp_X11_isLane; grind
theorem sp_X11_isHalf (h0 : ¬ vp_in x 2 → post 0) (h1 : vp_in x 2 → post 1) : wp_X11_isHalf x post := by
  have e : vp_in x 2 ↔ 0 ≤ x ∧ x < 2 := vin_I (by decide)
  unfold wp_X11_isHalf; grind
theorem sp_X11_isKnockable (h0 : ¬ vp_in (x - 1) 5 → post 0) (h1 : vp_in (x - 1) 5 → post 1) : wp_X11_isKnockable x post := by
  have e : vp_in (x - 1) 5 ↔ 0 ≤ x - 1 ∧ x - 1 < 5 := vin_I (by decide)
  unfold wp_X11_isKnockable; grind
theorem sp_X11_isRowLength (h0 : ¬ vp_in (x - 1) 600 → post 0) (h1 : vp_in (x - 1) 600 → post 1) : wp_X11_isRowLength x post := by
  have e : vp_in (x - 1) 600 ↔ 0 ≤ x - 1 ∧ x - 1 < 600 := vin_I (by decide)
  unfold wp_X11_isRowLength; grind
theorem sp_X9_isLetter (h0 : ¬ vp_in (x - 97) 26 → post 0) (h1 : vp_in (x - 97) 26 → post 1) : wp_X9_isLetter x post := by
  have e : vp_in (x - 97) 26 ↔ 0 ≤ x - 97 ∧ x - 97 < 26 := vin_I (by decide)
  unfold wp_X9_isLetter; grind
theorem sp_X11_isWord {n : Nat} (hn : n < 2 ^ 31) (h0 : ¬ vp_in x n → post 0) (h1 : vp_in x n → post 1) : wp_X11_isWord (nI n) x post := by
  have e : vp_in x n ↔ 0 ≤ x ∧ x < nI n := vin_I hn
  unfold wp_X11_isWord; grind
theorem sp_X12_in {a b : Int32} (h0 : ¬ (a ≤ x ∧ x ≤ b) → post 0) (h1 : (a ≤ x ∧ x ≤ b) → post 1) : wp_X12_in x.toInt64 a.toInt64 b.toInt64 post := by
  unfold wp_X12_in
  simp only [wide_lt]
  grind
theorem sp_in0 {b : Int32} {n : Nat} (hn : n < 2 ^ 31) (hb : ∀ y : Int32, y ≤ b ↔ y < nI n) (h0 : ¬ vp_in x n → post 0) (h1 : vp_in x n → post 1) : wp_X12_in x.toInt64 0 b.toInt64 post := by
  have e : vp_in x n ↔ 0 ≤ x ∧ x < nI n := vin_I hn
  refine sp_X12_in (a := 0) (fun c => h0 ?_) (fun c => h1 ?_)
  · rw [e, ← hb]; exact c
  · rw [e, ← hb]; exact c
theorem le_24 (y : Int32) : y ≤ 24 ↔ y < nI 25 := by show y ≤ 24 ↔ y < 25; grind
theorem le_6 (y : Int32) : y ≤ 6 ↔ y < nI 7 := by show y ≤ 6 ↔ y < 7; grind
theorem le_10 (y : Int32) : y ≤ 10 ↔ y < nI 11 := by show y ≤ 10 ↔ y < 11; grind
theorem le_1 (y : Int32) : y ≤ 1 ↔ y < nI 2 := by show y ≤ 1 ↔ y < 2; grind
theorem le_2 (y : Int32) : y ≤ 2 ↔ y < nI 3 := by show y ≤ 2 ↔ y < 3; grind
theorem le_3 (y : Int32) : y ≤ 3 ↔ y < nI 4 := by show y ≤ 3 ↔ y < 4; grind
theorem le_5 (y : Int32) : y ≤ 5 ↔ y < nI 6 := by show y ≤ 5 ↔ y < 6; grind
theorem le_20 (y : Int32) : y ≤ 20 ↔ y < nI 21 := by show y ≤ 20 ↔ y < 21; grind
theorem le_599 (y : Int32) : y ≤ 599 ↔ y < nI 600 := by show y ≤ 599 ↔ y < 600; grind
theorem le_2047 (y : Int32) : y ≤ 2047 ↔ y < nI 2048 := by show y ≤ 2047 ↔ y < 2048; grind
theorem le_nI1 {n : Nat} (hn : n < 2 ^ 31) (y : Int32) : y ≤ nI n - 1 ↔ y < nI n := by have := nI_nn hn; grind
theorem sp_X12_isPlace (h0 : ¬ vp_in x 25 → post 0) (h1 : vp_in x 25 → post 1) : wp_X12_isPlace x post := by
  unfold wp_X12_isPlace
  exact sp_in0 (b := 24) (by decide) le_24 (fun c => ⟨Or.inl rfl, h0 c⟩) (fun c => ⟨Or.inr rfl, h1 c⟩)
theorem sp_X12_isCount (h0 : ¬ vp_in x 7 → post 0) (h1 : vp_in x 7 → post 1) : wp_X12_isCount x post := by
  unfold wp_X12_isCount
  exact sp_in0 (b := 6) (by decide) le_6 (fun c => ⟨Or.inl rfl, h0 c⟩) (fun c => ⟨Or.inr rfl, h1 c⟩)
theorem sp_X12_isCell (h0 : ¬ vp_in x 11 → post 0) (h1 : vp_in x 11 → post 1) : wp_X12_isCell x post := by
  unfold wp_X12_isCell
  exact sp_in0 (b := 10) (by decide) le_10 (fun c => ⟨Or.inl rfl, h0 c⟩) (fun c => ⟨Or.inr rfl, h1 c⟩)
theorem sp_X12_isWord {ru : Nat → Int32} {n : Nat} (hn : n < 2 ^ 31) (hr : ru 5 = nI n) (h0 : ¬ vp_in x n → post 0) (h1 : vp_in x n → post 1) : wp_X12_isWord ru x post := by
  unfold wp_X12_isWord
  refine ⟨by unfold vp_in; decide, ?_⟩
  rw [show (5 : Int32).toNatClampNeg = 5 from rfl, hr]
  exact sp_in0 (b := nI n - 1) hn (le_nI1 hn) (fun c => ⟨Or.inl rfl, h0 c⟩) (fun c => ⟨Or.inr rfl, h1 c⟩)
theorem sp_in1 {n : Nat} {b : Int32} (hn : n < 2 ^ 30) (hb : b = nI n) (h0 : ¬ vp_in (x - 1) n → post 0) (h1 : vp_in (x - 1) n → post 1) : wp_X12_in x.toInt64 1 b.toInt64 post := by
  have e : vp_in (x - 1) n ↔ 0 ≤ x - 1 ∧ x - 1 < nI n := vin_I (by omega)
  have e2 := nI_nn (n := n) (by omega)
  refine sp_X12_in (a := 1) (fun c => h0 ?_) (fun c => h1 ?_) <;> grind
theorem sp_in97 (h0 : ¬ vp_in (x - 97) 26 → post 0) (h1 : vp_in (x - 97) 26 → post 1) : wp_X12_in x.toInt64 97 122 post := by
  have e : vp_in (x - 97) 26 ↔ 0 ≤ x - 97 ∧ x - 97 < 26 := vin_I (by decide)
  refine sp_X12_in (a := 97) (b := 122) (fun c => h0 ?_) (fun c => h1 ?_) <;> grind
end
/-! the least i below n with p i, else n -/
def fnd (p : Nat → Bool) : Nat → Nat
  | 0 => 0
  | n + 1 => if fnd p n < n then fnd p n else if p n then n else n + 1
theorem fnd_le (p : Nat → Bool) : ∀ n, fnd p n ≤ n
  | 0 => Nat.le_refl 0
  | n + 1 => by have := fnd_le p n; unfold fnd; grind
theorem fnd_no (p : Nat → Bool) : ∀ n k, k < fnd p n → p k = false
  | 0, k, h => absurd h (Nat.not_lt_zero k)
  | n + 1, k, h => by
    have ih := fnd_no p n k
    have := fnd_le p n
    unfold fnd at h
    grind
theorem fnd_yes (p : Nat → Bool) : ∀ n, fnd p n < n → p (fnd p n) = true
  | 0, h => absurd h (Nat.not_lt_zero _)
  | n + 1, h => by
    have ih := fnd_yes p n
    have := fnd_le p n
    unfold fnd at h ⊢
    grind
theorem fnd_at {p : Nat → Bool} {n i : Nat} (hi : i < n) (h1 : p i = true) (h2 : ∀ k, k < i → p k = false) : fnd p n = i := by
  have a := fnd_no p n i
  have b := fnd_yes p n
  have c := fnd_le p n
  rcases Nat.lt_trichotomy (fnd p n) i with h | h | h
  · have := h2 _ h; have := b (by omega); simp_all
  · exact h
  · have := a h; simp_all
theorem fnd_none {p : Nat → Bool} {n : Nat} (h : ∀ k, k < n → p k = false) : fnd p n = n := by
  have b := fnd_yes p n
  have c := fnd_le p n
  rcases Nat.lt_or_ge (fnd p n) n with q | q
  · have := h _ q; have := b q; simp_all
  · omega
/-! THE TABLE: place by letter -/
def okT (T : Nat → Nat) : Prop := (∀ p, p < 25 → T p < 26) ∧ ∀ p q, p < 25 → q < 25 → T p = T q → p = q
def pidx (T : Nat → Nat) (l : Nat) : Nat := fnd (fun p => T p == l) 25
theorem pidx_le (T : Nat → Nat) (l : Nat) : pidx T l ≤ 25 := fnd_le _ _
theorem pidx_T {T : Nat → Nat} {l : Nat} (h : pidx T l < 25) : T (pidx T l) = l := by have := fnd_yes _ _ h; simp at this; exact this
theorem pidx_of {T : Nat → Nat} (hT : okT T) {p : Nat} (hp : p < 25) : pidx T (T p) = p := by
  refine fnd_at hp (by simp) (fun k hk => ?_)
  simp only [beq_eq_false_iff_ne, ne_eq]
  exact fun e => absurd (hT.2 k p (by omega) hp e) (by omega)
theorem pidx_out {T : Nat → Nat} {l : Nat} (h : ∀ p, p < 25 → T p ≠ l) : pidx T l = 25 := fnd_none (fun k hk => by simp only [beq_eq_false_iff_ne, ne_eq]; exact h k hk)
theorem pidx_no {T : Nat → Nat} {l : Nat} (h : ¬ pidx T l < 25) {p : Nat} (hp : p < 25) : T p ≠ l := by
  have e := fnd_no (fun p => T p == l) 25 p (by have := pidx_le T l; unfold pidx at *; omega)
  simpa using e
def plc (T : Nat → Nat) (l : Nat) : Int32 := if pidx T l < 25 then nI (pidx T l) else -4
def plX (T : Nat → Nat) (l : Nat) : Int32 := if pidx T l < 25 then nI (pidx T l) else -1
theorem sp_X12_placeOf {T : Nat → Nat} {st : Nat → Int32} {l : Nat} {post : Int32 → Prop} (hst : ∀ p, p < 25 → st p = nI (T p)) (hT : okT T) (hl : l < 2 ^ 31) (h : post (plc T l)) : wp_X12_placeOf st (nI l) post := by
  unfold wp_X12_placeOf
  refine fix_0 (fun k => ((if pidx T l < k then nI (pidx T l) else -4 : Int32), nI k)) 25 (by rfl) ?_
  intro K k hk hK
  unfold F_X12_placeOf_5
  dsimp only
  simp (disch := omega) only [i25, nI_leI, vin_n, nI_clamp, nI_1]
  refine ⟨fun c => ?_, fun c => ⟨by omega, ?_⟩⟩
  · have : k = 25 := by omega
    subst this
    exact h
  · have hk' : k < 25 := by omega
    rw [hst k hk', nI_eq (by have := hT.1 k hk'; omega) (by omega)]
    have hK := hK hk'
    have e1 := fnd_no (fun p => T p == l) 25
    have e2 := fnd_yes (fun p => T p == l) 25
    have e3 := fnd_le (fun p => T p == l) 25
    have e4 := hT.2 (pidx T l) k
    unfold pidx at *
    refine ⟨fun q => ?_, fun q => ?_⟩
    · grind
    · grind
theorem sp_X2_placeOf {T : Nat → Nat} {pl : Nat → Int32} {x : Int32} {post : Int32 → Prop} (hp : ∀ l, l < 26 → pl l = plX T l) (h0 : ¬ vp_in (x - 97) 26 → post (-1)) (h1 : ∀ l, l < 26 → x = nI (97 + l) → post (plX T l)) : wp_X2_placeOf pl x post := by
  unfold wp_X2_placeOf
  refine sp_X9_isLetter (fun c => ⟨fun _ => h0 c, fun q => absurd rfl q⟩) (fun c => ⟨fun q => absurd q (by decide), fun _ => ⟨c, ?_⟩⟩)
  obtain ⟨l, hl, e⟩ := vin_ex (by decide) c
  have ex : x = nI (97 + l) := by
    have : x = (x - 97) + 97 := by grind
    rw [this, e, i97, nI_add, Nat.add_comm]
  rw [e, nI_clamp (by omega), hp l hl]
  exact h1 l hl ex
theorem plX_nn {T : Nat → Nat} {l : Nat} : (0 : Int32) ≤ plX T l ↔ pidx T l < 25 := by
  unfold plX
  split
  · rename_i h; exact ⟨fun _ => h, fun _ => nI_nn (by omega)⟩
  · rename_i h; exact ⟨fun q => absurd q (by decide), fun q => absurd q h⟩
theorem plX_in {T : Nat → Nat} {l : Nat} (h : pidx T l < 25) : plX T l = nI (pidx T l) := if_pos h
theorem plc_in {T : Nat → Nat} {l : Nat} (h : pidx T l < 25) : plc T l = nI (pidx T l) := if_pos h
theorem plX_out {T : Nat → Nat} {l : Nat} (h : ¬ pidx T l < 25) : plX T l = -1 := if_neg h
theorem plc_out {T : Nat → Nat} {l : Nat} (h : ¬ pidx T l < 25) : plc T l = -4 := if_neg h
/-! images -/
def T0 (p : Nat) : Nat := if p < 10 then p else p + 1
theorem T0_ok : okT T0 := by unfold okT T0; constructor <;> grind
def okI (T H N : Nat → Nat) (hn : Nat) : Prop := okT T ∧ hn ≤ 24 ∧ (∀ i, i < hn → H i ≤ 6) ∧ ∀ w, w < 10 → N w < 2048
def XI (T H N : Nat → Nat) (hn : Nat) (le pl hc kn : Nat → Int32) (hs : Int32) : Prop := (∀ p, p < 25 → le p = nI (97 + T p)) ∧ (∀ l, l < 26 → pl l = plX T l) ∧ hs = nI hn ∧ (∀ i, i < hn → hc i = nI (H i)) ∧ ∀ w, w < 10 → kn w = nI (N w)
def MR (b : Nat) (H N : Nat → Nat) (hn : Nat) (st : Nat → Int32) : Prop := st (b + 49) = nI hn ∧ (∀ i, i < hn → st (b + 25 + i) = nI (H i)) ∧ ∀ w, w < 10 → st (b + 50 + w) = nI (N w)
def MT (b : Nat) (T : Nat → Nat) (st : Nat → Int32) : Prop := ∀ p, p < 25 → st (b + p) = nI (T p)
def MA (aw : Int32) (T : Nat → Nat) (st : Nat → Int32) : Prop := (aw = 1 ∧ MT 0 T st) ∨ (aw = 0 ∧ ∀ p, p < 25 → T p = T0 p)
theorem sp_X12_awake {aw : Int32} {T : Nat → Nat} {st : Nat → Int32} {post : Int32 → (Nat → Int32) → Prop} (hA : MA aw T st) (h : ∀ st', MT 0 T st' → (∀ j, 25 ≤ j → st' j = st j) → post 1 st') : wp_X12_awake aw st post := by
  unfold wp_X12_awake
  rcases hA with ⟨e, hm⟩ | ⟨e, hm⟩
  · refine fix_0 (fun k => (nI k, st)) 0 rfl (fun K k hk hK => ?_)
    have : k = 0 := by omega
    subst this
    unfold F_X12_awake_2
    dsimp only
    rw [e]
    refine ⟨fun _ => h st hm (fun _ _ => rfl), fun _ => ⟨fun _ => h st hm (fun _ _ => rfl), fun q => absurd q (by decide)⟩⟩
  · refine fix_iv (fun k v => v.1 = nI k ∧ (∀ p, p < k → v.2 p = nI (T p)) ∧ ∀ j, k ≤ j → v.2 j = st j) 25 (fun K k v hk hI hK => ?_) 0 (by omega) ⟨rfl, fun p hp => absurd hp (by omega), fun _ _ => rfl⟩
    obtain ⟨x1, s1⟩ := v
    obtain ⟨h1, h2, h3⟩ := hI
    dsimp only at h1 h2 h3
    subst h1
    unfold F_X12_awake_2
    dsimp only
    simp (disch := omega) only [i25, i10, nI_leI, vin_n, nI_clamp, nI_1]
    refine ⟨fun c => h s1 (fun p hp => by rw [Nat.zero_add]; exact h2 p (by omega)) (fun j hj => h3 j (by omega)), fun c => ⟨fun q => absurd e q, fun _ => ?_⟩⟩
    have key : ∀ y, y = nI (T k) → K (nI (k + 1), upd s1 k y) := fun y hy => hK (by omega) _ ⟨rfl, fun p hp => by
      rcases Nat.lt_or_ge p k with q | q
      · show upd s1 k y p = _; rw [pk_un (by omega)]; exact h2 p q
      · have : p = k := by omega
        subst this; show upd s1 p y p = _; rw [pk_us]; exact hy, fun j hj => by show upd s1 k y j = _; rw [pk_un (by omega)]; exact h3 j (by omega)⟩
    refine ⟨fun q => ⟨by omega, key _ (by rw [hm k (by omega)]; unfold T0; rw [if_neg (by omega)])⟩, fun q => ⟨by omega, key _ (by rw [hm k (by omega)]; unfold T0; rw [if_pos (by omega)])⟩⟩
