/-! what the lines of a code told: d 0 scalars (words, shorts, less, more, knock, pause, gap, guards), d 1 length of a word, d 2 its weight, d 3 its letters (8 w + k), d 4 length of a short, d 5 letters (3 s + k), d 6 length of what it is for, d 7 letters (8 s + k), d 8 from, d 9 many -/
abbrev PD : Type := Nat → Nat → Nat
abbrev nw (d : PD) : Nat := d 0 0
abbrev nsh (d : PD) : Nat := d 0 1
abbrev lss (d : PD) : Nat := d 0 2
abbrev mre (d : PD) : Nat := d 0 3
abbrev ngd (d : PD) : Nat := d 0 7
abbrev wl (d : PD) (w : Nat) : Nat := d 1 w
abbrev ww (d : PD) (w : Nat) : Nat := d 2 w
abbrev wc (d : PD) (w k : Nat) : Nat := d 3 (8 * w + k)
abbrev sl (d : PD) (s : Nat) : Nat := d 4 s
abbrev sc (d : PD) (s k : Nat) : Nat := d 5 (3 * s + k)
abbrev ll (d : PD) (s : Nat) : Nat := d 6 s
abbrev lc (d : PD) (s k : Nat) : Nat := d 7 (8 * s + k)
def okP (d : PD) : Prop := nw d ≤ 10 ∧ nsh d ≤ 6 ∧ ngd d ≤ 6 ∧ lss d ≤ 9 ∧ mre d ≤ 9 ∧ (∀ i, 4 ≤ i → i ≤ 6 → 1 ≤ d 0 i ∧ d 0 i ≤ 99) ∧
  (∀ w, w < nw d → 1 ≤ wl d w ∧ wl d w ≤ 8 ∧ 1 ≤ ww d w ∧ ww d w ≤ 99 ∧ ∀ k, k < wl d w → wc d w k < 26) ∧
  (∀ s, s < nsh d → 1 ≤ sl d s ∧ sl d s ≤ 3 ∧ 2 ≤ ll d s ∧ ll d s ≤ 8 ∧ (∀ k, k < sl d s → sc d s k < 26) ∧ ∀ k, k < ll d s → lc d s k < 26) ∧
  ∀ g, g < ngd d → d 8 g < 600 ∧ 1 ≤ d 9 g ∧ d 9 g ≤ 60
def cov (d : PD) (T : Nat → Nat) : Prop := (∀ w, w < nw d → ∀ k, k < wl d w → pidx T (wc d w k) < 25) ∧ (∀ s, s < nsh d → ∀ k, k < sl d s → pidx T (sc d s k) < 25) ∧ ∀ s, s < nsh d → ∀ k, k < ll d s → pidx T (lc d s k) < 25
def RI (d : PD) (aw : Int32) (st le pl : Nat → Int32) (hs : Int32) (hc kn : Nat → Int32) : Prop := ∃ (T H N : Nat → Nat) (hn : Nat), okI T H N hn ∧ cov d T ∧ XI T H N hn le pl hc kn hs ∧ MA aw T st ∧ MR 0 H N hn st
def KS (st st' : Nat → Int32) (aw aw' : Int32) : Prop := (∀ j, 64 ≤ j → st' j = st j) ∧ (aw = 1 → aw' = 1)
theorem KS.rf {st : Nat → Int32} {aw : Int32} : KS st st aw aw := ⟨fun _ _ => rfl, fun h => h⟩
theorem MR.kept {b : Nat} {H N : Nat → Nat} {hn : Nat} {st st' : Nat → Int32} (h : MR b H N hn st) (hn' : hn ≤ 24) (he : ∀ j, b + 25 ≤ j → j < b + 64 → st' j = st j) : MR b H N hn st' :=
  ⟨by rw [he _ (by omega) (by omega)]; exact h.1, fun i hi => by rw [he _ (by omega) (by omega)]; exact h.2.1 i hi, fun w hw => by rw [he _ (by omega) (by omega)]; exact h.2.2 w hw⟩
theorem MT.kept {b : Nat} {T : Nat → Nat} {st st' : Nat → Int32} (h : MT b T st) (he : ∀ j, b ≤ j → j < b + 25 → st' j = st j) : MT b T st' := fun p hp => by rw [he _ (by omega) (by omega)]; exact h p hp
section
variable {d : PD} {aw : Int32} {st le pl : Nat → Int32} {hs : Int32} {hc kn : Nat → Int32}
theorem aw_use {post : Int32 → (Nat → Int32) → Prop} (h : RI d aw st le pl hs hc kn) (hp : ∀ (T H N : Nat → Nat) (hn : Nat) (st' : Nat → Int32), okI T H N hn → cov d T → XI T H N hn le pl hc kn hs → MT 0 T st' → MR 0 H N hn st' → RI d 1 st' le pl hs hc kn → KS st st' aw 1 → post 1 st') : wp_X12_awake aw st post := by
  obtain ⟨T, H, N, hn, h1, h2, h3, h4, h5⟩ := h
  refine sp_X12_awake h4 (fun st' m1 m2 => ?_)
  have m3 : MR 0 H N hn st' := h5.kept h1.2.1 (fun j a b => m2 j (by omega))
  exact hp T H N hn st' h1 h2 h3 m1 m3 ⟨T, H, N, hn, h1, h2, h3, Or.inl ⟨rfl, m1⟩, m3⟩ ⟨fun j hj => m2 j (by omega), fun _ => rfl⟩
theorem sim_table (h : RI d aw st le pl hs hc kn) (x : Int32) : wp_X11_table le x (fun r => wp_X12_table aw st x (fun r' aw' st' => r = r' ∧ RI d aw' st' le pl hs hc kn ∧ KS st st' aw aw')) := by
  unfold wp_X11_table
  refine sp_X11_isPlace (fun c => ⟨fun _ => ?_, fun q => absurd rfl q⟩) (fun c => ⟨fun q => absurd q (by decide), fun _ => ⟨c, ?_⟩⟩) <;> unfold wp_X12_table <;> refine aw_use h (fun T H N hn st' a1 a2 a3 a4 a5 a6 a7 => ?_)
  · exact sp_X12_isPlace (fun _ => ⟨fun _ => ⟨rfl, a6, a7⟩, fun q => absurd rfl q⟩) (fun q => absurd q c)
  · refine sp_X12_isPlace (fun q => absurd c q) (fun _ => ⟨fun q => absurd q (by decide), fun _ => ?_⟩)
    obtain ⟨k, hk, rfl⟩ := vin_ex (by decide) c
    have := a1.1.1 k hk
    have e := a4 k hk
    rw [Nat.zero_add] at e
    simp (disch := omega) only [vin_n, nI_clamp, e, a3.1 k hk, i97, nI_add]
    exact ⟨by omega, by rw [Nat.add_comm], a6, a7⟩
theorem sim_place (h : RI d aw st le pl hs hc kn) (x : Int32) : wp_X11_place pl x (fun r => wp_X12_place aw st x (fun r' aw' st' => r = r' ∧ RI d aw' st' le pl hs hc kn ∧ KS st st' aw aw')) := by
  have key : ∀ r, (¬ vp_in (x - 97) 26 → r = -1) → (∀ (T : Nat → Nat) l, (∀ l, l < 26 → pl l = plX T l) → l < 26 → x = nI (97 + l) → r = plc T l) → wp_X12_place aw st x (fun r' aw' st' => r = r' ∧ RI d aw' st' le pl hs hc kn ∧ KS st st' aw aw') := by
    intro r r1 r2
    unfold wp_X12_place
    refine aw_use h (fun T H N hn st' a1 a2 a3 a4 a5 a6 a7 => ?_)
    refine sp_in97 (fun c => ⟨fun _ => ⟨r1 c, a6, a7⟩, fun q => absurd rfl q⟩) (fun c => ⟨fun q => absurd q (by decide), fun _ => ?_⟩)
    obtain ⟨l, hl, e⟩ := vin_ex (by decide) c
    rw [e]
    have ex : x = nI (97 + l) := by
      have : x = (x - 97) + 97 := by grind
      rw [this, e, i97, nI_add, Nat.add_comm]
    exact sp_X12_placeOf (T := T) (fun p hp => by have := a4 p hp; rw [Nat.zero_add] at this; exact this) a1.1 (by omega) ⟨r2 T l a3.2.1 hl ex, a6, a7⟩
  have e97 : vp_in (x - 97) 26 ↔ 0 ≤ x - 97 ∧ x - 97 < 26 := vin_I (by decide)
  obtain ⟨T, H, N, hn, h1, h2, h3, h4, h5⟩ := id h
  unfold wp_X11_place
  refine ⟨fun c => key _ (fun _ => rfl) (fun T l _ hl e => ?_), fun c => ⟨fun c2 => ?_, fun c2 => key _ (fun _ => rfl) (fun T l _ hl e => ?_)⟩⟩
  · exfalso; rw [e, i97, nI_ltI (by omega) (by omega)] at c; omega
  · refine sp_X2_placeOf h3.2.1 (fun q => absurd (e97.mpr (by grind)) q) (fun l hl e => ?_)
    have same : ∀ T' : Nat → Nat, (∀ l, l < 26 → pl l = plX T' l) → plX T l = plX T' l := fun T' hT' => by rw [← h3.2.1 l hl, hT' l hl]
    have hl' : ∀ l', x = nI (97 + l') → l' < 26 → l' = l := fun l' e' hl' => by
      have := (nI_eq (a := 97 + l') (b := 97 + l) (by omega) (by omega)).mp (by rw [← e', ← e])
      omega
    rw [plX_nn]
    refine ⟨fun q => key _ (fun z => ?_) (fun T' l' hT' hl2 e' => ?_), fun q => key _ (fun z => ?_) (fun T' l' hT' hl2 e' => ?_)⟩
    · exfalso; exact z (e97.mpr (by grind))
    · have := hl' l' e' hl2; subst this
      have s := same T' hT'
      have q' : pidx T' l' < 25 := plX_nn.mp (by rw [← s]; exact plX_nn.mpr q)
      rw [s, plX_in q', plc_in q']
    · exfalso; exact z (e97.mpr (by grind))
    · have := hl' l' e' hl2; subst this
      have s := same T' hT'
      have q' : ¬ pidx T' l' < 25 := fun z => q (plX_nn.mp (by rw [s]; exact plX_nn.mpr z))
      rw [plc_out q']
  · exfalso; rw [e, show (122 : Int32) = nI 122 from rfl, nI_leI (by omega) (by omega)] at c2; omega
theorem sim_hear (h : RI d aw st le pl hs hc kn) (x : Int32) : wp_X11_hear hs hc x (fun r hs' hc' => wp_X12_hear aw st x (fun r' aw' st' => r = r' ∧ RI d aw' st' le pl hs' hc' kn ∧ KS st st' aw aw')) := by
  obtain ⟨T, H, N, hn, h1, h2, h3, h4, h5⟩ := id h
  have ehs := h3.2.2.1
  subst ehs
  have hn24 := h1.2.1
  unfold wp_X11_hear
  refine sp_X11_isHearable (fun c => ⟨fun q => absurd rfl q, fun _ => ?_⟩) (fun c => ⟨fun _ => ⟨fun c2 => ?_, fun c2 => ?_⟩, fun q => absurd q (by decide)⟩)
  · unfold wp_X12_hear
    exact aw_use h (fun T H N hn st' a1 a2 a3 a4 a5 a6 a7 => sp_X12_isCount (fun _ => ⟨fun q => absurd rfl q, fun _ => ⟨rfl, a6, a7⟩⟩) (fun q => absurd q c))
  · rw [i24, nI_ltI (by omega) (by omega)] at c2
    obtain ⟨k, hk, rfl⟩ := vin_ex (by decide) c
    refine ⟨(vin_n (by omega)).mpr c2, ?_⟩
    unfold wp_X12_hear
    refine aw_use h (fun T' H' N' hn' st' a1 a2 a3 a4 a5 a6 a7 => ?_)
    have en : hn' = hn := by have := a3.2.2.1; exact ((nI_eq (by have := a1.2.1; omega) (by omega)).mp this.symm)
    subst en
    refine sp_X12_isCount (fun q => absurd c q) (fun _ => ⟨fun _ => ?_, fun q => absurd q (by decide)⟩)
    have e49 := a5.1
    rw [Nat.zero_add] at e49
    simp (disch := omega) only [i49, i24, i25, i1, nI_clamp, vin_n, e49, nI_eq, nI_add]
    refine ⟨by omega, fun _ => ⟨by omega, by omega, by omega, by omega, by omega, ?_⟩, fun q => absurd q (by omega)⟩
    rw [show upd st' (25 + hn') (nI k) 49 = nI hn' from by rw [pk_un (by omega)]; exact e49, nI_add, pk_us]
    refine ⟨rfl, ⟨T', fun i => if i = hn' then k else H' i, N', hn' + 1, ⟨a1.1, by omega, fun i hi => ?_, a1.2.2.2⟩, a2, ⟨a3.1, a3.2.1, rfl, fun i hi => ?_, a3.2.2.2.2⟩, Or.inl ⟨rfl, a4.kept (fun j p q => by rw [pk_un (by omega), pk_un (by omega)])⟩, ?_, fun i hi => ?_, fun w hw => ?_⟩, fun j hj => ?_, fun _ => rfl⟩
    · dsimp only; split
      · omega
      · exact a1.2.2.1 i (by omega)
    · dsimp only; split
      · rename_i q; rw [q, pk_us]
      · rw [pk_un (by omega)]; exact a3.2.2.2.1 i (by omega)
    · rw [Nat.zero_add, pk_us]
    · rw [Nat.zero_add, pk_un (by omega)]
      dsimp only; split
      · rename_i q; rw [q, pk_us]
      · rw [pk_un (by omega)]; have := a5.2.1 i (by omega); rw [Nat.zero_add] at this; exact this
    · rw [pk_un (by omega), pk_un (by omega)]; exact a5.2.2 w hw
    · rw [pk_un (by omega), pk_un (by omega)]; exact a7.1 j hj
  · rw [i24, nI_ltI (by omega) (by omega)] at c2
    have e24 : hn = 24 := by omega
    subst e24
    unfold wp_X12_hear
    refine aw_use h (fun T' H' N' hn' st' a1 a2 a3 a4 a5 a6 a7 => ?_)
    have en : hn' = 24 := by have := a3.2.2.1; exact ((nI_eq (by have := a1.2.1; omega) (by omega)).mp this.symm)
    subst en
    have e49 := a5.1
    refine sp_X12_isCount (fun q => absurd c q) (fun _ => ⟨fun _ => ⟨by unfold vp_in; decide, fun q => absurd e49 q, fun _ => ⟨rfl, a6, a7⟩⟩, fun q => absurd q (by decide)⟩)
theorem sim_hush (h : RI d aw st le pl hs hc kn) : wp_X11_hush hs (fun r hs' => wp_X12_hush st (fun r' st' => r = r' ∧ RI d aw st' le pl hs' hc kn ∧ KS st st' aw aw)) := by
  obtain ⟨T, H, N, hn, h1, h2, h3, h4, h5⟩ := h
  unfold wp_X11_hush wp_X12_hush
  have e49 := h5.1
  refine ⟨by unfold vp_in; decide, by unfold vp_in; decide, h3.2.2.1.trans e49.symm, ⟨T, H, N, 0, ⟨h1.1, by omega, fun i hi => absurd hi (by omega), h1.2.2.2⟩, h2, ⟨h3.1, h3.2.1, rfl, fun i hi => absurd hi (by omega), h3.2.2.2.2⟩, ?_, pk_us, fun i hi => absurd hi (by omega), fun w hw => ?_⟩, fun j hj => ?_, fun q => q⟩
  · rcases h4 with q | q
    · exact Or.inl ⟨q.1, q.2.kept (fun j a b => pk_un (show j ≠ 49 by omega))⟩
    · exact Or.inr q
  · rw [show (49 : Int32).toNatClampNeg = 49 from rfl, pk_un (by omega)]; exact h5.2.2 w hw
  · rw [show (49 : Int32).toNatClampNeg = 49 from rfl, pk_un (by omega)]
theorem sim_heard (h : RI d aw st le pl hs hc kn) (x : Int32) : wp_X11_heard hs hc x (fun r => wp_X12_heard st x (fun r' => r = r')) := by
  obtain ⟨T, H, N, hn, h1, h2, h3, h4, h5⟩ := h
  have ehs := h3.2.2.1
  subst ehs
  have hn24 := h1.2.1
  have e49 := h5.1
  rw [Nat.zero_add] at e49
  have e : vp_in x hn ↔ 0 ≤ x ∧ x < nI hn := vin_I (by omega)
  have key : ∀ r, (¬ vp_in x hn → r = -1) → (∀ k, k < hn → x = nI k → r = nI (H k)) → wp_X12_heard st x (fun r' => r = r') := by
    intro r r1 r2
    unfold wp_X12_heard
    refine ⟨by unfold vp_in; decide, ?_⟩
    rw [show (49 : Int32).toNatClampNeg = 49 from rfl, e49]
    refine sp_in0 (n := hn) (by omega) (le_nI1 (by omega)) (fun c => ⟨fun _ => r1 c, fun q => absurd rfl q⟩) (fun c => ⟨fun q => absurd q (by decide), fun _ => ?_⟩)
    obtain ⟨k, hk, rfl⟩ := vin_ex (by omega) c
    simp (disch := omega) only [i25, nI_add, vin_n, nI_clamp]
    have := h5.2.1 k hk
    rw [Nat.zero_add] at this
    exact ⟨by omega, by rw [this]; exact r2 k hk rfl⟩
  unfold wp_X11_heard
  refine ⟨fun c => key _ (fun _ => rfl) (fun k hk z => ?_), fun c => ⟨fun c2 => key _ (fun _ => rfl) (fun k hk z => ?_), fun c2 => ?_⟩⟩
  · exfalso; rw [z] at c; exact nI_pos (by omega) c
  · exfalso; rw [z, nI_leI (by omega) (by omega)] at c2; omega
  · have hin : vp_in x hn := e.mpr (by grind)
    obtain ⟨k, hk, rfl⟩ := vin_ex (by omega) hin
    refine ⟨(vin_n (by omega)).mpr (by omega), ?_⟩
    rw [nI_clamp (by omega), h3.2.2.2.1 k hk]
    refine key _ (fun q => absurd hin q) (fun k' hk' z => ?_)
    rw [(nI_eq (by omega) (by omega)).mp z]
end
