/-! clear, startWith -/
theorem sp_fillB {n : Nat} (hn : n < 2 ^ 31) {p0 : Nat → Int32} {x : Int32} (hx : vp_nar .byte x = x) {post : (Nat → Int32) → Prop} (h : ∀ p', (∀ j, j < n → p' j = x) → post p') : wp_J7_fill_031fb n p0 x post := by
  unfold wp_J7_fill_031fb
  refine fix_iv (fun i v => v.1 = nI i ∧ ∀ j, j < i → v.2 j = x) n (fun K i v hi hI hK => ?_) 0 (by omega) ⟨rfl, fun j hj => absurd hj (by omega)⟩
  obtain ⟨x2, s1⟩ := v
  obtain ⟨h1, h2⟩ := hI
  dsimp only at h1 h2
  subst h1
  unfold F_J7_fill_031fb_5
  dsimp only
  rw [show Int32.ofNat n = nI n from rfl, hx]
  simp (disch := omega) only [i1, nI_add, nI_leI, vin_n, nI_clamp]
  refine ⟨fun c => h s1 (fun j hj => h2 j (by omega)), fun c => ⟨by omega, hK (by omega) _ ⟨rfl, fun j hj => ?_⟩⟩⟩
  dsimp only
  rcases Nat.lt_or_ge j i with z | z
  · rw [pk_un (by omega)]; exact h2 j z
  · have : j = i := by omega
    subst this; rw [pk_us]
theorem sp_X0_clear {x1 x2 x3 x4 x5 x6 x7 x8 x9 x10 x11 x12 : Int32} {wa le : Nat → Int32} {post : Int32 → Int32 → Int32 → Int32 → Int32 → Int32 → Int32 → Int32 → Int32 → Int32 → Int32 → Int32 → (Nat → Int32) → (Nat → Int32) → Prop} (h : ∀ wa' le', (∀ m, m < 600 → wa' m = 0) → (∀ p, p < 25 → le' p = nI (97 + T0 p)) → post 0 1 1 3 6 12 0 0 0 0 0 0 wa' le') : wp_X0_clear x1 x2 x3 x4 x5 x6 x7 x8 x9 x10 x11 x12 wa le post := by
  unfold wp_X0_clear
  refine fix_iv (fun i v => v.1 = nI i ∧ ∀ j, j < i → v.2 j = nI (97 + T0 j)) 25 (fun K i v hi hI hK => ?_) 0 (by omega) ⟨rfl, fun j hj => absurd hj (by omega)⟩
  obtain ⟨y1, s1⟩ := v
  obtain ⟨h1, h2⟩ := hI
  dsimp only at h1 h2
  subst h1
  unfold F_X0_clear_2 wp_X5_clear
  dsimp only
  rw [i25, nI_leI (by omega) (by omega), i10, nI_leI (by omega) (by omega)]
  refine ⟨fun q => sp_fillB (by decide) rfl (fun p' hp => h p' s1 hp (fun p hp => h2 p (by omega))), fun q => ?_⟩
  have key : ∀ y, y = nI (97 + T0 i) → K (nI i + 1, upd s1 i y) := fun y hy => by
    rw [nI_1]
    refine hK (by omega) _ ⟨rfl, fun j hj => ?_⟩
    dsimp only
    rcases Nat.lt_or_ge j i with z | z
    · rw [pk_un (by omega)]; exact h2 j z
    · have : j = i := by omega
      subst this; rw [pk_us]; exact hy
  have v : vp_in (nI i) 25 := (vin_n (by omega)).mpr (by omega)
  rw [nI_clamp (by omega)]
  have nar : ∀ k, k < 128 → vp_nar .byte ((nI k).toInt8.toInt32) = nI k := fun k hk => by
    have : ∀ j : Fin 128, vp_nar .byte ((nI j.val).toInt8.toInt32) = nI j.val := by decide +kernel
    exact this ⟨k, hk⟩
  refine ⟨fun q2 => ⟨v, key _ ?_⟩, fun q2 => ⟨v, key _ ?_⟩⟩
  · rw [i98, nI_add, nar _ (by omega)]; unfold T0; rw [if_neg (by omega)]; congr 1; omega
  · rw [i97, nI_add, nar _ (by omega)]; unfold T0; rw [if_pos (by omega)]
theorem sp_X2_startWith {T : Nat → Nat} (hT : okT T) {hs : Int32} {tb pl kn le : Nat → Int32} (ht : ∀ p, p < 25 → tb p = nI (97 + T p)) {post : Int32 → (Nat → Int32) → (Nat → Int32) → (Nat → Int32) → Prop} (h : ∀ pl' kn' le', (∀ p, p < 25 → le' p = nI (97 + T p)) → (∀ l, l < 26 → pl' l = plX T l) → (∀ w, w < 10 → kn' w = 0) → post 0 pl' kn' le') : wp_X2_startWith 25 hs tb pl kn le post := by
  unfold wp_X2_startWith
  refine sp_fillB (x := -1) (by decide) (by decide) (fun p' hp' => ?_)
  refine fix_iv (fun q v => v.1 = nI q ∧ (∀ l, l < 26 → v.2.1 l = if pidx T l < q then nI (pidx T l) else -1) ∧ (∀ p, p < q → v.2.2 p = nI (97 + T p))) 25 (fun K' q v hq hI hK' => ?_) 0 (by omega) ⟨rfl, fun l hl => by rw [if_neg (by omega)]; exact hp' l hl, fun p hp => absurd hp (by omega)⟩
  obtain ⟨x2, pl1, le1⟩ := v
  obtain ⟨e1, e2, e3⟩ := hI
  dsimp only at e1 e2 e3
  subst e1
  unfold F_X2_startWith_10 B_X2_startWith_36
  dsimp only
  rw [show Int32.ofNat 25 = nI 25 from rfl, i25, nI_leI (by omega) (by omega)]
  have fin : q = 25 → wp_J7_fill_53178 10 kn 0 (fun u3_p0 => post 0 pl1 u3_p0 le1) := fun e => by
    subst e
    exact sp_fill (by decide) (fun k' hk' _ => h pl1 k' le1 e3 (fun l hl => by rw [e2 l hl]; rfl) hk')
  refine ⟨fun z => fin (by omega), fun z => ⟨fun z2 => absurd z2 z, fun _ => ⟨(vin_n (by omega)).mpr (by omega), ?_⟩⟩⟩
  have hq := hT.1 q (by omega)
  rw [nI_clamp (by omega), ht q (by omega), nI_1]
  refine sp_X2_put (by omega) hq (hK' (by omega) _ ⟨rfl, fun l hl => ?_, fun p hp => ?_⟩)
  · dsimp only
    by_cases w : l = T q
    · subst w
      rw [pk_us, pidx_of hT (by omega), if_pos (by omega)]
    · rw [pk_un w, e2 l hl]
      have : pidx T l ≠ q := fun e => w (by rw [← e]; exact (pidx_T (by omega)).symm)
      by_cases w2 : pidx T l < q
      · rw [if_pos w2, if_pos (by omega)]
      · rw [if_neg w2, if_neg (by omega)]
  · dsimp only
    rcases Nat.lt_or_ge p q with w | w
    · rw [pk_un (by omega)]; exact e3 p w
    · have : p = q := by omega
      subst this; rw [pk_us]
theorem okPs_0 : okPs ps0 := by
  refine ⟨⟨by decide, by decide, by decide, by decide, by decide, fun i h4 h6 => ?_, fun w hw => absurd hw (Nat.not_lt_zero w), fun w hw => absurd hw (Nat.not_lt_zero w), fun w hw => absurd hw (Nat.not_lt_zero w)⟩, T0_ok⟩
  rcases (show i = 4 ∨ i = 5 ∨ i = 6 by omega) with rfl | rfl | rfl <;> decide
theorem lns_6 {B : Nat → Nat} {n : Nat} : ∀ (k : Nat) {s : Ps} {a l : Nat}, (lns B n k s a l).1 ≤ 6
  | 0, _, _, _ => Nat.zero_le 6
  | k + 1, s, a, l => by
    rw [lns]
    split
    · exact Nat.zero_le 6
    · split
      · exact lns_6 k
      · exact lne_6
theorem XP_0 {wa lt sln sms slt lln lms llt wln wms wlt wts : Nat → Int32} (hw : ∀ m, m < 600 → wa m = 0) (hl : ∀ p, p < 25 → lt p = nI (97 + T0 p)) : XP ps0 0 1 1 3 6 12 0 0 0 wa 0 sln sms slt 0 lln lms llt 0 wln wms wlt wts lt := by
  have n0 : ∀ {P : Nat → Prop}, ∀ w, w < 0 → P w := fun w hw => absurd hw (Nat.not_lt_zero w)
  exact ⟨⟨rfl, rfl, rfl, rfl, rfl, rfl⟩, ⟨rfl, rfl, rfl, by decide, by decide, by decide, by decide⟩, fun m hm => (hw m hm).trans rfl, ⟨⟨rfl, rfl, by decide, by decide, by decide, by decide, by decide, n0⟩, n0, ⟨rfl, rfl, by decide, by decide, by decide, by decide, by decide, n0⟩, n0⟩, ⟨⟨⟨rfl, rfl, by decide, by decide, by decide, by decide, by decide, n0⟩, n0⟩, n0⟩, hl⟩
section
variable {B : Nat → Nat} {n : Nat} {bytes : Nat → Int32} {ap as : Nat} {lf rk rw ta tt0 tf0 tv0 hs k0 k1 : Int32} {pl kn ln : Nat → Int32} {gu le mo kk pa ga tt st tm sz lz wz : Int32} {wa sln sms slt lln lms llt wln wms wlt wts lt : Nat → Int32}
theorem cl_code (hn : n ≤ 320) (hB : ∀ k, k < n → B k < 256 ∧ bytes k = sx (B k)) {post : Int32 → Nat → Nat → Int32 → Int32 → Int32 → Int32 → Int32 → Int32 → Int32 → Int32 → Int32 → Int32 → Int32 → Int32 → Int32 → (Nat → Int32) → (Nat → Int32) → Int32 → Int32 → Int32 → Int32 → Int32 → Int32 → Int32 → (Nat → Int32) → (Nat → Int32) → (Nat → Int32) → (Nat → Int32) → (Nat → Int32) → (Nat → Int32) → (Nat → Int32) → (Nat → Int32) → (Nat → Int32) → (Nat → Int32) → Int32 → (Nat → Int32) → (Nat → Int32) → (Nat → Int32) → Int32 → Int32 → Prop}
    (h0 : ¬ (lns B n 320 ps0 0 0).1 = 0 → ∀ gu' le' mo' kk' pa' ga' tt' st' tm' wz' sz' lz' wa' lt' ta' tt0' tf0' tv0' wms' sms' lms' sln' slt' lln' llt' wln' wlt' wts', post (-10 - nI (lns B n 320 ps0 0 0).2.1) ap as (nI (lns B n 320 ps0 0 0).1) gu' le' mo' kk' pa' ga' tt' st' tm' wz' sz' lz' wa' lt' (nI (lns B n 320 ps0 0 0).1) (nI (lns B n 320 ps0 0 0).2.1) 0 ta' tt0' tf0' tv0' wms' sms' lms' sln' slt' lln' llt' wln' wlt' wts' hs pl kn ln k0 k1)
    (h1 : (lns B n 320 ps0 0 0).1 = 0 → ¬ cov (lns B n 320 ps0 0 0).2.2.1.1 (lns B n 320 ps0 0 0).2.2.1.2.1 → ∀ gu' le' mo' kk' pa' ga' tt' st' tm' wz' sz' lz' wa' lt' ta' tt0' tf0' tv0' wms' sms' lms' sln' slt' lln' llt' wln' wlt' wts', post (-10 - nI n) ap as 6 gu' le' mo' kk' pa' ga' tt' st' tm' wz' sz' lz' wa' lt' 6 (nI n) 0 ta' tt0' tf0' tv0' wms' sms' lms' sln' slt' lln' llt' wln' wlt' wts' hs pl kn ln k0 k1)
    (h2 : (lns B n 320 ps0 0 0).1 = 0 → cov (lns B n 320 ps0 0 0).2.2.1.1 (lns B n 320 ps0 0 0).2.2.1.2.1 → okPs (lns B n 320 ps0 0 0).2.2.1 → ∀ gu' le' mo' kk' pa' ga' tt' st' tm' wz' sz' lz' wa' lt' ta' tt0' tf0' tv0' wms' sms' lms' sln' slt' lln' llt' wln' wlt' wts' pl' kn' ln', XP (lns B n 320 ps0 0 0).2.2.1 gu' le' mo' kk' pa' ga' tt' st' tm' wa' sz' sln' sms' slt' lz' lln' lms' llt' wz' wln' wms' wlt' wts' lt' → (∀ p, p < 25 → ln' p = nI (97 + (lns B n 320 ps0 0 0).2.2.1.2.1 p)) → (∀ l, l < 26 → pl' l = plX (lns B n 320 ps0 0 0).2.2.1.2.1 l) → (∀ w, w < 10 → kn' w = 0) → post (nI (lns B n 320 ps0 0 0).2.2.2) as ap 0 gu' le' mo' kk' pa' ga' tt' st' tm' wz' sz' lz' wa' lt' 0 0 0 ta' tt0' tf0' tv0' wms' sms' lms' sln' slt' lln' llt' wln' wlt' wts' 0 pl' kn' ln' 0 0) :
    wp_X11_code 10 6 6 6 18 6 48 10 80 ap as lf gu le mo kk pa ga tt st tm 10 8 wz 6 3 sz 6 8 lz wa lt rk rw (nI n) ta tt0 tf0 tv0 wms sms lms bytes sln slt lln llt wln wlt wts hs pl kn ln k0 k1 post := by
  unfold wp_X11_code
  refine sp_X0_clear (fun wa0 lt0 c1 c2 => ?_)
  refine cl_lines hn hB okPs_0 (XP_0 c1 c2) (fun z r at' to' fr' va' gu' le' mo' kk' pa' ga' tt' st' tm' wz' wms' sz' sms' lz' lms' lt' wa' sln' slt' lln' llt' wln' wlt' wts' => ⟨fun y => ?_, fun _ => h0 z _ _ _ _ _ _ _ _ _ _ _ _ _ _ _ _ _ _ _ _ _ _ _ _ _ _ _ _⟩) (fun z c r at' to' fr' va' gu' le' mo' kk' pa' ga' tt' st' tm' wz' wms' sz' sms' lz' lms' lt' wa' sln' slt' lln' llt' wln' wlt' wts' => ⟨fun y => absurd y (by decide), fun _ => h1 z c _ _ _ _ _ _ _ _ _ _ _ _ _ _ _ _ _ _ _ _ _ _ _ _ _ _ _ _⟩) (fun z c ok at' to' fr' va' gu' le' mo' kk' pa' ga' tt' st' tm' wz' wms' sz' sms' lz' lms' lt' wa' sln' slt' lln' llt' wln' wlt' wts' hX => ⟨fun _ => ?_, fun y => absurd rfl y⟩)
  · exfalso
    have h6 : (lns B n 320 ps0 0 0).1 ≤ 6 := lns_6 320
    exact z ((nI_eq (b := 0) (by omega) (by omega)).mp y)
  · refine sp_X2_startWith ok.2 hX.2.2.2.2.2 (fun pl' kn' ln' a1 a2 a3 => ?_)
    have h2 := h2 z c ok
    refine fix_iv (fun k v => v.1 = nI k ∧ (1 ≤ k → v.2.1 = 0) ∧ (2 ≤ k → v.2.2 = 0)) 2 (fun K k v hk hI hK => ?_) 0 (by omega) ⟨rfl, fun q => absurd q (by omega), fun q => absurd q (by omega)⟩
    obtain ⟨x3, y0, y1⟩ := v
    obtain ⟨e1, e2, e3⟩ := hI
    dsimp only at e1 e2 e3
    subst e1
    unfold F_X11_code_97
    dsimp only
    have e0' : nI k = 0 ↔ k = 0 := nI_eq (b := 0) (by omega) (by omega)
    have e1' : nI k = 1 ↔ k = 1 := nI_eq (b := 1) (by omega) (by omega)
    rw [i2, nI_leI (by omega) (by omega), e0', e1', nI_1]
    refine ⟨fun q => ?_, fun q => ⟨(vin_n (by omega)).mpr (by omega), fun q0 => hK (by omega) _ ⟨rfl, fun _ => rfl, fun t => absurd t (by omega)⟩, fun q1 => hK (by omega) _ ⟨rfl, fun _ => e2 (by omega), fun _ => rfl⟩⟩⟩
    have e2 := e2 (by omega)
    have e3 := e3 (by omega)
    subst e2; subst e3
    exact h2 _ _ _ _ _ _ _ _ _ _ _ _ _ _ _ _ _ _ _ _ _ _ _ _ _ _ _ _ pl' kn' ln' hX a1 a2 a3
end
