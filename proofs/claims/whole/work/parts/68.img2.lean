/-! keep, back -/
def RK (d : PD) (b : Nat) (ke km : Int32) (st le pl : Nat → Int32) (hs : Int32) (hc kn : Nat → Int32) : Prop := (ke = 0 ∧ km = 0) ∨ (ke = 1 ∧ km = 1 ∧ ∃ (T H N : Nat → Nat) (hn : Nat), okI T H N hn ∧ cov d T ∧ XI T H N hn le pl hc kn hs ∧ MT b T st ∧ MR b H N hn st)
theorem RK.mv {d : PD} {b : Nat} {ke km : Int32} {st st' le pl : Nat → Int32} {hs : Int32} {hc kn : Nat → Int32} (h : RK d b ke km st le pl hs hc kn) (he : ∀ j, b ≤ j → j < b + 64 → st' j = st j) : RK d b ke km st' le pl hs hc kn := by
  rcases h with h | ⟨h1, h2, T, H, N, hn, h3, h4, h5, h6, h7⟩
  · exact Or.inl h
  · exact Or.inr ⟨h1, h2, T, H, N, hn, h3, h4, h5, h6.kept (fun j a b => he j (by omega) (by omega)), h7.kept h3.2.1 (fun j a b => he j (by omega) (by omega))⟩
theorem cpy_at {f g : Nat → Int32} {n j : Nat} (h : j < n) : va_cpy f g 0 0 n j = f j := by rw [pk_cpy_in (by omega) (by omega)]; simp
theorem XI.cpy {T H N : Nat → Nat} {hn : Nat} {le pl hc kn le' pl' hc' kn' : Nat → Int32} {hs : Int32} (h : XI T H N hn le pl hc kn hs) (h24 : hn ≤ 24) : XI T H N hn (va_cpy le le' 0 0 25) (va_cpy pl pl' 0 0 26) (va_cpy hc hc' 0 0 24) (va_cpy kn kn' 0 0 10) hs :=
  ⟨fun p hp => by rw [cpy_at hp]; exact h.1 p hp, fun l hl => by rw [cpy_at hl]; exact h.2.1 l hl, h.2.2.1, fun i hi => by rw [cpy_at (by omega)]; exact h.2.2.2.1 i hi, fun w hw => by rw [cpy_at hw]; exact h.2.2.2.2 w hw⟩
theorem fit_small {n : Nat} (h : n < 128) : fits .byte (.int (nI n)) = true := by
  have : ∀ j : Fin 128, fits .byte (.int (nI j.val)) = true := by decide +kernel
  exact this ⟨n, h⟩
theorem sp_X2_copyFrom {T H N : Nat → Nat} {hn : Nat} {le pl hc kn le' pl' hc' kn' : Nat → Int32} {hs hs' : Int32} {post : Int32 → (Nat → Int32) → (Nat → Int32) → (Nat → Int32) → (Nat → Int32) → Prop} (h : XI T H N hn le pl hc kn hs) (hT : okT T) (hp : post hs (va_cpy le le' 0 0 25) (va_cpy pl pl' 0 0 26) (va_cpy hc hc' 0 0 24) (va_cpy kn kn' 0 0 10)) : wp_X2_copyFrom hs' hs le le' pl pl' hc hc' kn kn' post := by
  unfold wp_X2_copyFrom
  refine ⟨fun i hi => ?_, fun i hi => ?_, hp⟩
  · have hi' : i < 25 := hi
    rw [show (0 : Int32).toNatClampNeg + i = i from Nat.zero_add i, h.1 i hi']
    exact fit_small (by have := hT.1 i hi'; omega)
  · have hi' : i < 26 := hi
    rw [show (0 : Int32).toNatClampNeg + i = i from Nat.zero_add i, h.2.1 i hi']
    unfold plX
    split
    · exact fit_small (by omega)
    · decide
section
variable {d : PD} {aw : Int32} {st le pl : Nat → Int32} {hs : Int32} {hc kn : Nat → Int32} {km : Nat → Int32}
theorem MT.page {T : Nat → Nat} {b : Nat} {st' : Nat → Int32} (h : MT 0 T st) (he : ∀ j, j < 64 → st' (b + j) = st j) : MT b T st' := fun p hp => by rw [he p (by omega)]; have := h p hp; rw [Nat.zero_add] at this; exact this
theorem MR.page {H N : Nat → Nat} {hn b : Nat} {st' : Nat → Int32} (h : MR 0 H N hn st) (h24 : hn ≤ 24) (he : ∀ j, j < 64 → st' (b + j) = st j) : MR b H N hn st' :=
  ⟨by rw [he 49 (by omega)]; have := h.1; rw [Nat.zero_add] at this; exact this, fun i hi => by rw [Nat.add_assoc, he (25 + i) (by omega)]; have := h.2.1 i hi; rw [Nat.zero_add] at this; exact this, fun w hw => by rw [Nat.add_assoc, he (50 + w) (by omega)]; have := h.2.2 w hw; rw [Nat.zero_add] at this; exact this⟩
theorem MT.unpage {T : Nat → Nat} {b : Nat} {st' : Nat → Int32} (h : MT b T st) (he : ∀ j, j < 64 → st' j = st (b + j)) : MT 0 T st' := fun p hp => by rw [Nat.zero_add, he p (by omega)]; exact h p hp
theorem MR.unpage {H N : Nat → Nat} {hn b : Nat} {st' : Nat → Int32} (h : MR b H N hn st) (h24 : hn ≤ 24) (he : ∀ j, j < 64 → st' j = st (b + j)) : MR 0 H N hn st' :=
  ⟨by rw [Nat.zero_add, he 49 (by omega)]; exact h.1, fun i hi => by rw [Nat.zero_add, he (25 + i) (by omega), ← Nat.add_assoc]; exact h.2.1 i hi, fun w hw => by rw [Nat.zero_add, he (50 + w) (by omega), ← Nat.add_assoc]; exact h.2.2 w hw⟩
theorem nar_b1 : vp_nar .boolean 1 = 1 := rfl
/-- the reference's copy of what is now to a page -/
theorem sp_keepLoop {k : Nat} (hk : k < 2) {post : Int32 → Int32 → (Nat → Int32) → (Nat → Int32) → Prop} (h : ∀ st', (∀ j, j < 64 → st' (64 * (k + 1) + j) = st j) → (∀ j, (j < 64 * (k + 1) ∨ 64 * (k + 1) + 64 ≤ j) → st' j = st j) → post (if km k = 0 then 0 else 1) aw st' (upd km k 1)) : ∃ n, fixN (F_X12_keep_18 (nI k) aw km post) n (0, st) := by
  refine fix_iv (fun i v => v.1 = nI i ∧ (∀ j, j < i → v.2 (64 * (k + 1) + j) = st j) ∧ ∀ j, (j < 64 * (k + 1) ∨ 64 * (k + 1) + i ≤ j) → v.2 j = st j) 64 (fun K i v hi hI hK => ?_) 0 (by omega) ⟨rfl, fun j hj => absurd hj (by omega), fun _ _ => rfl⟩
  obtain ⟨x2, s1⟩ := v
  obtain ⟨h1, h2, h3⟩ := hI
  dsimp only at h1 h2 h3
  subst h1
  unfold F_X12_keep_18
  dsimp only
  simp (disch := omega) only [i64, i1, pk_mul, nI_add, nI_leI, vin_n, nI_clamp]
  refine ⟨fun c => ?_, fun c => ⟨by omega, by omega, ?_⟩⟩
  · have : i = 64 := by omega
    subst this
    have := h s1 h2 h3
    rw [← i1, nar_b1]
    refine ⟨hk, fun q => ⟨hk, by rw [if_pos q] at this; exact this⟩, fun q => ⟨hk, by rw [if_neg q] at this; exact this⟩⟩
  · refine hK (by omega) _ ⟨rfl, fun j hj => ?_, fun j hj => ?_⟩
    · dsimp only
      rcases Nat.lt_or_ge j i with z | z
      · rw [pk_un (by omega)]; exact h2 j z
      · have : j = i := by omega
        subst this; rw [pk_us]; exact h3 j (by omega)
    · dsimp only; rw [pk_un (by omega)]; exact h3 j (by omega)
theorem sp_backLoop {k : Nat} (hk : k < 2) {post : Int32 → (Nat → Int32) → Prop} (h : ∀ st', (∀ j, j < 64 → st' j = st (64 * (k + 1) + j)) → (∀ j, 64 ≤ j → st' j = st j) → post (st' 49) st') : ∃ n, fixN (F_X12_back_26 (nI k) post) n (0, st) := by
  refine fix_iv (fun i v => v.1 = nI i ∧ (∀ j, j < i → v.2 j = st (64 * (k + 1) + j)) ∧ ∀ j, i ≤ j → v.2 j = st j) 64 (fun K i v hi hI hK => ?_) 0 (by omega) ⟨rfl, fun j hj => absurd hj (by omega), fun _ _ => rfl⟩
  obtain ⟨x2, s1⟩ := v
  obtain ⟨h1, h2, h3⟩ := hI
  dsimp only at h1 h2 h3
  subst h1
  unfold F_X12_back_26
  dsimp only
  simp (disch := omega) only [i64, i1, pk_mul, nI_add, nI_leI, vin_n, nI_clamp]
  refine ⟨fun c => ⟨by unfold vp_in; decide, h s1 (fun j hj => h2 j (by omega)) (fun j hj => h3 j (by omega))⟩, fun c => ⟨by omega, by omega, ?_⟩⟩
  refine hK (by omega) _ ⟨rfl, fun j hj => ?_, fun j hj => ?_⟩
  · dsimp only
    rcases Nat.lt_or_ge j i with z | z
    · rw [pk_un (by omega)]; exact h2 j z
    · have : j = i := by omega
      subst this; rw [pk_us]; exact h3 _ (by omega)
  · dsimp only; rw [pk_un (by omega)]; exact h3 j (by omega)
/-- all of the images -/
def RKS (d : PD) (aw : Int32) (st km : Nat → Int32) (s0 k0 s1 k1 : Int32) (l1 p1 c1 n1 l0 p0 c0 n0 : Nat → Int32) : Prop := RK d 64 k0 (km 0) st l0 p0 s0 c0 n0 ∧ RK d 128 k1 (km 1) st l1 p1 s1 c1 n1 ∧ (k0 = 1 → aw = 1) ∧ (k1 = 1 → aw = 1)
theorem RKS.mv {st' : Nat → Int32} {aw' : Int32} {s0 k0 s1 k1 : Int32} {l1 p1 c1 n1 l0 p0 c0 n0 : Nat → Int32} (h : RKS d aw st km s0 k0 s1 k1 l1 p1 c1 n1 l0 p0 c0 n0) (hk : KS st st' aw aw') : RKS d aw' st' km s0 k0 s1 k1 l1 p1 c1 n1 l0 p0 c0 n0 :=
  ⟨h.1.mv (fun j a b => hk.1 j (by omega)), h.2.1.mv (fun j a b => hk.1 j (by omega)), fun q => hk.2 (h.2.2.1 q), fun q => hk.2 (h.2.2.2 q)⟩
theorem RK.two {b : Nat} {ke kz : Int32} (h : RK d b ke kz st le pl hs hc kn) : (ke = 0 ∧ kz = 0) ∨ (ke = 1 ∧ kz = 1) := by
  rcases h with h | h
  · exact Or.inl h
  · exact Or.inr ⟨h.1, h.2.1⟩
theorem sim_keep {s0 k0 s1 k1 : Int32} {l1 p1 c1 n1 l0 p0 c0 n0 : Nat → Int32} (h : RI d aw st le pl hs hc kn) (hk : RKS d aw st km s0 k0 s1 k1 l1 p1 c1 n1 l0 p0 c0 n0) (x : Int32) : wp_X11_keep s0 k0 s1 k1 hs le l1 pl p1 hc c1 kn n1 l0 p0 c0 n0 x (fun r s0' k0' s1' k1' l1' p1' c1' n1' l0' p0' c0' n0' => wp_X12_keep aw st km x (fun r' aw' st' km' => r = r' ∧ RI d aw' st' le pl hs hc kn ∧ RKS d aw' st' km' s0' k0' s1' k1' l1' p1' c1' n1' l0' p0' c0' n0')) := by
  unfold wp_X11_keep
  refine sp_X11_isImage (fun c => ⟨fun q => absurd rfl q, fun _ => ?_⟩) (fun c => ⟨fun _ => ⟨c, fun x0 => ?_, fun x1 => ?_⟩, fun q => absurd q (by decide)⟩)
  · unfold wp_X12_keep
    exact aw_use h (fun T H N hn st' a1 a2 a3 a4 a5 a6 a7 => sp_in0 (b := 1) (n := 2) (by decide) le_1 (fun _ => ⟨fun q => absurd rfl q, fun _ => ⟨rfl, a6, hk.mv a7⟩⟩) (fun q => absurd q c))
  · subst x0
    have go : ∀ z, z = (if km 0 = 0 then 0 else 1) → B_X11_keep_26 hs le pl hc kn 0 s0 k0 s1 k1 l1 p1 c1 n1 l0 p0 c0 n0 z (fun r s0' k0' s1' k1' l1' p1' c1' n1' l0' p0' c0' n0' => wp_X12_keep aw st km 0 (fun r' aw' st' km' => r = r' ∧ RI d aw' st' le pl hs hc kn ∧ RKS d aw' st' km' s0' k0' s1' k1' l1' p1' c1' n1' l0' p0' c0' n0')) := by
      intro z hz
      unfold B_X11_keep_26
      obtain ⟨T, H, N, hn, h1, h2, h3, h4, h5⟩ := id h
      refine ⟨c, fun _ => sp_X2_copyFrom h3 h1.1 ?_, fun q => absurd q (by decide)⟩
      unfold wp_X12_keep
      refine aw_use h (fun T H N hn st' a1 a2 a3 a4 a5 a6 a7 => sp_in0 (b := 1) (n := 2) (by decide) le_1 (fun q => absurd c q) (fun _ => ⟨fun _ => ?_, fun q => absurd q (by decide)⟩))
      refine sp_keepLoop (k := 0) (by omega) (fun st'' m1 m2 => ⟨hz, ⟨T, H, N, hn, a1, a2, a3, Or.inl ⟨rfl, a4.kept (fun j p q => m2 j (by omega))⟩, a5.kept a1.2.1 (fun j p q => m2 j (by omega))⟩, ?_, ?_, fun _ => rfl, fun _ => rfl⟩)
      · exact Or.inr ⟨rfl, pk_us, T, H, N, hn, a1, a2, a3.cpy a1.2.1, a4.page m1, a5.page a1.2.1 m1⟩
      · rw [pk_un (by omega)]; exact (hk.mv a7).2.1.mv (fun j p q => m2 j (by omega))
    rcases hk.1.two with ⟨e1, e2⟩ | ⟨e1, e2⟩
    · exact ⟨fun _ => go 0 (by rw [e2]; rfl), fun q => absurd e1 q⟩
    · exact ⟨fun q => absurd (e1.symm.trans q) (by decide), fun _ => go 1 (by rw [e2]; rfl)⟩
  · subst x1
    have go : ∀ z, z = (if km 1 = 0 then 0 else 1) → B_X11_keep_26 hs le pl hc kn 1 s0 k0 s1 k1 l1 p1 c1 n1 l0 p0 c0 n0 z (fun r s0' k0' s1' k1' l1' p1' c1' n1' l0' p0' c0' n0' => wp_X12_keep aw st km 1 (fun r' aw' st' km' => r = r' ∧ RI d aw' st' le pl hs hc kn ∧ RKS d aw' st' km' s0' k0' s1' k1' l1' p1' c1' n1' l0' p0' c0' n0')) := by
      intro z hz
      unfold B_X11_keep_26
      obtain ⟨T, H, N, hn, h1, h2, h3, h4, h5⟩ := id h
      refine ⟨c, fun q => absurd q (by decide), fun _ => sp_X2_copyFrom h3 h1.1 ?_⟩
      unfold wp_X12_keep
      refine aw_use h (fun T H N hn st' a1 a2 a3 a4 a5 a6 a7 => sp_in0 (b := 1) (n := 2) (by decide) le_1 (fun q => absurd c q) (fun _ => ⟨fun _ => ?_, fun q => absurd q (by decide)⟩))
      refine sp_keepLoop (k := 1) (by omega) (fun st'' m1 m2 => ⟨hz, ⟨T, H, N, hn, a1, a2, a3, Or.inl ⟨rfl, a4.kept (fun j p q => m2 j (by omega))⟩, a5.kept a1.2.1 (fun j p q => m2 j (by omega))⟩, ?_, ?_, fun _ => rfl, fun _ => rfl⟩)
      · rw [pk_un (by omega)]; exact (hk.mv a7).1.mv (fun j p q => m2 j (by omega))
      · exact Or.inr ⟨rfl, pk_us, T, H, N, hn, a1, a2, a3.cpy a1.2.1, a4.page m1, a5.page a1.2.1 m1⟩
    rcases hk.2.1.two with ⟨e1, e2⟩ | ⟨e1, e2⟩
    · exact ⟨fun _ => go 0 (by rw [e2]; rfl), fun q => absurd e1 q⟩
    · exact ⟨fun q => absurd (e1.symm.trans q) (by decide), fun _ => go 1 (by rw [e2]; rfl)⟩
theorem sim_back {s0 k0 s1 k1 : Int32} {l1 p1 c1 n1 l0 p0 c0 n0 : Nat → Int32} (h : RI d aw st le pl hs hc kn) (hk : RKS d aw st km s0 k0 s1 k1 l1 p1 c1 n1 l0 p0 c0 n0) (x : Int32) : wp_X11_back s0 k0 s1 k1 hs l1 le p1 pl c1 hc n1 kn l0 p0 c0 n0 x (fun r hs' le' pl' hc' kn' => wp_X12_back km st x (fun r' st' => r = r' ∧ RI d aw st' le' pl' hs' hc' kn' ∧ RKS d aw st' km s0 k0 s1 k1 l1 p1 c1 n1 l0 p0 c0 n0)) := by
  unfold wp_X11_back
  refine sp_X11_isImage (fun c => ⟨fun q => absurd rfl q, fun _ => ?_⟩) (fun c => ⟨fun _ => ⟨c, fun x0 => ?_, fun x1 => ?_⟩, fun q => absurd q (by decide)⟩)
  · unfold wp_X12_back
    exact sp_in0 (b := 1) (n := 2) (by decide) le_1 (fun _ => ⟨fun q => absurd rfl q, fun _ => ⟨rfl, h, hk⟩⟩) (fun q => absurd q c)
  · subst x0
    rcases id hk.1 with ⟨e1, e2⟩ | ⟨e1, e2, T, H, N, hn, b1, b2, b3, b4, b5⟩
    · refine ⟨fun q => absurd e1 q, fun _ => ?_⟩
      unfold wp_X12_back
      exact sp_in0 (b := 1) (n := 2) (by decide) le_1 (fun q => absurd c q) (fun _ => ⟨fun _ => ⟨c, fun q => absurd e2 q, fun _ => ⟨rfl, h, hk⟩⟩, fun q => absurd q (by decide)⟩)
    · refine ⟨fun _ => sp_X2_copyFrom b3 b1.1 ?_, fun q => absurd (e1.symm.trans q) (by decide)⟩
      unfold wp_X12_back
      refine sp_in0 (b := 1) (n := 2) (by decide) le_1 (fun q => absurd c q) (fun _ => ⟨fun _ => ⟨c, fun _ => ?_, fun q => absurd (e2.symm.trans q) (by decide)⟩, fun q => absurd q (by decide)⟩)
      refine sp_backLoop (k := 0) (by omega) (fun st' m1 m2 => ?_)
      have r5 := b5.unpage b1.2.1 m1
      refine ⟨b3.2.2.1.trans (by have := r5.1; rw [Nat.zero_add] at this; exact this.symm), ⟨T, H, N, hn, b1, b2, b3.cpy b1.2.1, Or.inl ⟨hk.2.2.1 e1, b4.unpage m1⟩, r5⟩, hk.mv ⟨fun j hj => m2 j hj, fun q => q⟩⟩
  · subst x1
    rcases id hk.2.1 with ⟨e1, e2⟩ | ⟨e1, e2, T, H, N, hn, b1, b2, b3, b4, b5⟩
    · refine ⟨fun q => absurd e1 q, fun _ => ?_⟩
      unfold wp_X12_back
      exact sp_in0 (b := 1) (n := 2) (by decide) le_1 (fun q => absurd c q) (fun _ => ⟨fun _ => ⟨c, fun q => absurd e2 q, fun _ => ⟨rfl, h, hk⟩⟩, fun q => absurd q (by decide)⟩)
    · refine ⟨fun _ => sp_X2_copyFrom b3 b1.1 ?_, fun q => absurd (e1.symm.trans q) (by decide)⟩
      unfold wp_X12_back
      refine sp_in0 (b := 1) (n := 2) (by decide) le_1 (fun q => absurd c q) (fun _ => ⟨fun _ => ⟨c, fun _ => ?_, fun q => absurd (e2.symm.trans q) (by decide)⟩, fun q => absurd q (by decide)⟩)
      refine sp_backLoop (k := 1) (by omega) (fun st' m1 m2 => ?_)
      have r5 := b5.unpage b1.2.1 m1
      refine ⟨b3.2.2.1.trans (by have := r5.1; rw [Nat.zero_add] at this; exact this.symm), ⟨T, H, N, hn, b1, b2, b3.cpy b1.2.1, Or.inl ⟨hk.2.2.2 e1, b4.unpage m1⟩, r5⟩, hk.mv ⟨fun j hj => m2 j hj, fun q => q⟩⟩
end
