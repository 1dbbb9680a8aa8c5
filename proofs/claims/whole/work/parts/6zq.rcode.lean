/-! code of the reference -/
theorem tkn_1 {B : Nat → Nat} {n a : Nat} (ha : a ≤ n) (h : (tkn B n a).1 = 1) : tf B n a = n := by
  have hr : a ≤ tkf B n a ∧ tkf B n a ≤ n := rnp_rng (p := fun k => B k == 32) ha
  unfold tf
  unfold tkn at h ⊢
  split at h
  · rename_i c
    rw [if_pos c]; show tkf B n a = n; omega
  · exfalso
    split at h
    · exact absurd (show (4 : Nat) = 1 from h) (by decide)
    · split at h
      · exact absurd (show (2 : Nat) = 1 from h) (by decide)
      · split at h
        · exact absurd (show (3 : Nat) = 1 from h) (by decide)
        · exact absurd (show (0 : Nat) = 1 from h) (by decide)
theorem tkn_n {B : Nat → Nat} {n : Nat} : (tkn B n n).1 = 1 := by
  have hr : n ≤ tkf B n n ∧ tkf B n n ≤ n := rnp_rng (p := fun k => B k == 32) (Nat.le_refl n)
  unfold tkn
  rw [if_pos (by omega)]
theorem rem_n {a b : Nat} (ha : a < 1000) (hb : 0 < b) (hb2 : b < 1000) : nI a - nI a / nI b * nI b = nI (a % b) := pk_rem (by omega) (by omega) (by omega)
section
variable {s : Ps} {aw tn : Int32} {km st rt wo rw0 sh rs gd rg ru rr : Nat → Int32}
theorem sp_takeAll (hT : ∀ p, p < 25 → rt p = nI (s.2.1 p)) {post : Int32 → (Nat → Int32) → (Nat → Int32) → (Nat → Int32) → (Nat → Int32) → (Nat → Int32) → (Nat → Int32) → Prop} (h : ∀ km' st' wo' sh' gd' ru', km' 0 = 0 → km' 1 = 0 → (∀ p, p < 25 → st' p = nI (s.2.1 p)) → (∀ j, 25 ≤ j → j < 64 → st' j = 0) → (∀ j, j < 100 → wo' j = rw0 j) → (∀ j, j < 78 → sh' j = rs j) → (∀ j, j < 12 → gd' j = rg j) → (∀ j, j < 8 → ru' j = rr j) → post 1 km' st' wo' sh' gd' ru') : wp_X12_takeAll aw km st rt wo rw0 sh rs gd rg ru rr post := by
  unfold wp_X12_takeAll
  refine fix_iv (fun k v => v.1 = nI k ∧ (∀ j, j < k → v.2.1 j = rw0 j) ∧ (∀ j, j < k → j < 78 → v.2.2.1 j = rs j) ∧ (∀ j, j < k → j < 12 → v.2.2.2.1 j = rg j) ∧ ∀ j, j < k → j < 8 → v.2.2.2.2 j = rr j) 100 (fun K k v hk hI hK => ?_) 0 (by omega) ⟨rfl, fun j hj => absurd hj (Nat.not_lt_zero j), fun j hj => absurd hj (Nat.not_lt_zero j), fun j hj => absurd hj (Nat.not_lt_zero j), fun j hj => absurd hj (Nat.not_lt_zero j)⟩
  obtain ⟨x1, w1, s1, g1, r1⟩ := v
  obtain ⟨e1, e2, e3, e4, e5⟩ := hI
  dsimp only at e1 e2 e3 e4 e5
  subst e1
  unfold F_X12_takeAll_2
  dsimp only
  rw [i100, nI_leI (by omega) (by omega)]
  refine ⟨fun q => ?_, fun q => ?_⟩
  · have : k = 100 := by omega
    subst this
    refine fix_iv (fun k v => v.1 = nI k ∧ (∀ j, j < k → j < 25 → v.2 j = nI (s.2.1 j)) ∧ ∀ j, j < k → 25 ≤ j → v.2 j = 0) 64 (fun K2 k v hk hI hK2 => ?_) 0 (by omega) ⟨rfl, fun j hj => absurd hj (Nat.not_lt_zero j), fun j hj => absurd hj (Nat.not_lt_zero j)⟩
    obtain ⟨x1, t1⟩ := v
    obtain ⟨f1, f2, f3⟩ := hI
    dsimp only at f1 f2 f3
    subst f1
    unfold F_X12_takeAll_82
    dsimp only
    rw [i64, nI_leI (by omega) (by omega), i25, nI_leI (by omega) (by omega), nI_1]
    have v : k < 64 → vp_in (nI k) 192 := fun _ => (vin_n (by omega)).mpr (by omega)
    refine ⟨fun q => ⟨by unfold vp_in; decide, by unfold vp_in; decide, ?_⟩, fun q => ⟨fun q2 => ⟨v (by omega), ?_⟩, fun q2 => ⟨(vin_n (by omega)).mpr (by omega), v (by omega), ?_⟩⟩⟩
    · refine h _ _ _ _ _ _ ?_ ?_ (fun p hp => f2 p (by omega) hp) (fun j h1 h2 => f3 j (by omega) h1) (fun j hj => e2 j hj) (fun j hj => e3 j (by omega) hj) (fun j hj => e4 j (by omega) hj) (fun j hj => e5 j (by omega) hj)
      · show upd (upd km 0 _) 1 _ 0 = 0
        rw [pk_un (by decide), pk_us]; rfl
      · show upd (upd km 0 _) 1 _ 1 = 0
        rw [pk_us]; rfl
    · rw [nI_clamp (by omega)]
      refine hK2 (by omega) _ ⟨rfl, fun j hj h25 => ?_, fun j hj h25 => ?_⟩
      · dsimp only; rw [pk_un (by omega)]; exact f2 j (by omega) h25
      · dsimp only
        by_cases c : j = k
        · subst c; rw [pk_us]
        · rw [pk_un c]; exact f3 j (by omega) h25
    · rw [nI_clamp (by omega), hT k (by omega)]
      refine hK2 (by omega) _ ⟨rfl, fun j hj h25 => ?_, fun j hj h25 => ?_⟩
      · dsimp only
        by_cases c : j = k
        · subst c; rw [pk_us]
        · rw [pk_un c]; exact f2 j (by omega) h25
      · omega
  · have m1 : k % 78 < 78 := Nat.mod_lt _ (by decide)
    have m2 : k % 12 < 12 := Nat.mod_lt _ (by decide)
    have m3 : k % 8 < 8 := Nat.mod_lt _ (by decide)
    rw [i78, rem_n (by omega) (by omega) (by omega), i12, rem_n (by omega) (by omega) (by omega), i8, rem_n (by omega) (by omega) (by omega), nI_1, nI_clamp (by omega), nI_clamp (by omega), nI_clamp (by omega), nI_clamp (by omega)]
    refine ⟨(vin_n (by omega)).mpr (by omega), (vin_n (by omega)).mpr (by omega), (vin_n (by omega)).mpr (by omega), (vin_n (by omega)).mpr (by omega), (vin_n (by omega)).mpr (by omega), (vin_n (by omega)).mpr (by omega), (vin_n (by omega)).mpr (by omega), (vin_n (by omega)).mpr (by omega), hK (by omega) _ ⟨rfl, fun j hj => ?_, fun j hj h1 => ?_, fun j hj h1 => ?_, fun j hj h1 => ?_⟩⟩
    · dsimp only
      by_cases c : j = k
      · subst c; rw [pk_us]
      · rw [pk_un c]; exact e2 j (by omega)
    · dsimp only
      by_cases c : j = k % 78
      · subst c; rw [pk_us]
      · rw [pk_un c]; exact e3 j (by omega) h1
    · dsimp only
      by_cases c : j = k % 12
      · subst c; rw [pk_us]
      · rw [pk_un c]; exact e4 j (by omega) h1
    · dsimp only
      by_cases c : j = k % 8
      · subst c; rw [pk_us]
      · rw [pk_un c]; exact e5 j (by omega) h1
end
section
variable {B : Nat → Nat} {n : Nat} {tape cu lt pn : Nat → Int32} {fl bk ba sp he to va tn aw : Int32} {km st rt wo rw0 sh rs gd rg ru rr : Nat → Int32}
def plL (k : Nat) : Nat := [1, 1, 3, 6, 12, 0, 0, 0].getD k 0
abbrev pTy : Type := Int32 → Int32 → Int32 → Int32 → Int32 → Int32 → Int32 → Int32 → Int32 → Int32 → Int32 → (Nat → Int32) → (Nat → Int32) → (Nat → Int32) → (Nat → Int32) → (Nat → Int32) → (Nat → Int32) → (Nat → Int32) → (Nat → Int32) → (Nat → Int32) → (Nat → Int32) → (Nat → Int32) → Prop
theorem rl_code (hn : n ≤ 320) (hB : ∀ k, k < n → B k < 256 ∧ tape k = nI (B k)) (hC : MK cu lt) (hpl : ∀ k, k < 8 → pn k = nI (plL k)) {post : pTy}
    (h0 : ¬ (lns B n 320 ps0 0 0).1 = 0 → ∀ sp' he' to' va' tn' rt' rw' rs' rg' rr', post (-10 - nI (lns B n 320 ps0 0 0).2.1) 0 (nI (lns B n 320 ps0 0 0).1) (nI (lns B n 320 ps0 0 0).1) (nI (lns B n 320 ps0 0 0).2.1) sp' he' to' va' tn' aw km st rt' wo rw' sh rs' gd rg' ru rr')
    (h1 : (lns B n 320 ps0 0 0).1 = 0 → ¬ cov (lns B n 320 ps0 0 0).2.2.1.1 (lns B n 320 ps0 0 0).2.2.1.2.1 → ∀ sp' he' to' va' tn' rt' rw' rs' rg' rr', post (-10 - nI n) 0 6 6 (nI n) sp' he' to' va' tn' aw km st rt' wo rw' sh rs' gd rg' ru rr')
    (h2 : (lns B n 320 ps0 0 0).1 = 0 → cov (lns B n 320 ps0 0 0).2.2.1.1 (lns B n 320 ps0 0 0).2.2.1.2.1 → ∀ ba' sp' he' to' va' tn' km' st' rt' wo' rw' sh' rs' gd' rg' ru' rr', km' 0 = 0 → km' 1 = 0 → (∀ p, p < 25 → st' p = nI ((lns B n 320 ps0 0 0).2.2.1.2.1 p)) → (∀ j, 25 ≤ j → j < 64 → st' j = 0) → MS (lns B n 320 ps0 0 0).2.2.1.1 ru' → MG (lns B n 320 ps0 0 0).2.2.1.1 ru' gd' → MH (lns B n 320 ps0 0 0).2.2.1.1 sh' → MW (lns B n 320 ps0 0 0).2.2.1.1 ru' wo' → post (nI (lns B n 320 ps0 0 0).2.2.2) 0 0 0 ba' sp' he' to' va' tn' 1 km' st' rt' wo' rw' sh' rs' gd' rg' ru' rr') :
    wp_X12_code (nI n) fl bk ba sp he to va tn aw tape km st rt wo rw0 sh rs gd rg ru rr cu lt pn post := by
  have brk : ∀ (F : Nat) (x1 ba' sp' he' to' va' tn' : Int32) (rt' rw' rs' rg' rr' : Nat → Int32), ¬ F = 0 → F ≤ 6 → (∀ sp' he' to' va' tn' rt' rw' rs' rg' rr', post (-10 - ba') 0 (nI F) (nI F) ba' sp' he' to' va' tn' aw km st rt' wo rw' sh rs' gd rg' ru rr') → B_X12_code_124 x1 (nI F) ba' sp' he' to' va' tn' aw km st rt' wo rw' sh rs' gd rg' ru rr' post := fun F x1 ba' sp' he' to' va' tn' rt' rw' rs' rg' rr' hF h6 hp => by
    unfold B_X12_code_124
    rw [i0, nI_leI (by omega) (by omega)]
    exact ⟨fun q => absurd q (by omega), fun _ => hp _ _ _ _ _ _ _ _ _ _⟩
  have bne : ∀ F : Nat, ¬ F = 0 → F ≤ 6 → ¬ nI F = 0 := fun F hF h6 z => hF ((nI_eq (b := 0) (by omega) (by omega)).mp z)
  unfold wp_X12_code
  refine fix_iv (fun k v => v.1 = nI k ∧ ∀ j, j < k → v.2 j = nI (plL j)) 8 (fun K k v hk hI hK => ?_) 0 (by omega) ⟨rfl, fun j hj => absurd hj (Nat.not_lt_zero j)⟩
  obtain ⟨x2, rr1⟩ := v
  obtain ⟨e1, e2⟩ := hI
  dsimp only at e1 e2
  subst e1
  unfold F_X12_code_19
  dsimp only
  rw [i8, nI_leI (by omega) (by omega)]
  refine ⟨fun q => ?_, fun q => ⟨(vin_n (by omega)).mpr (by omega), (vin_n (by omega)).mpr (by omega), ?_⟩⟩
  rotate_left
  · rw [nI_clamp (by omega), hpl k (by omega), nI_1]
    refine hK (by omega) _ ⟨rfl, fun j hj => ?_⟩
    dsimp only
    by_cases c : j = k
    · subst c; rw [pk_us]
    · rw [pk_un c]; exact e2 j (by omega)
  have : k = 8 := by omega
  subst this
  refine fix_iv (fun k v => v.1 = nI k ∧ ∀ j, j < k → v.2 j = nI (T0 j)) 25 (fun K k v hk hI hK => ?_) 0 (by omega) ⟨rfl, fun j hj => absurd hj (Nat.not_lt_zero j)⟩
  obtain ⟨x2, rt1⟩ := v
  obtain ⟨f1, f2⟩ := hI
  dsimp only at f1 f2
  subst f1
  unfold F_X12_code_45
  dsimp only
  rw [i25, nI_leI (by omega) (by omega), i10, nI_leI (by omega) (by omega), nI_clamp (by omega), nI_1]
  refine ⟨fun q => ?_, fun q => ?_⟩
  rotate_left
  · have key : ∀ y, y = nI (T0 k) → K (nI (k + 1), upd rt1 k y) := fun y hy => hK (by omega) _ ⟨rfl, fun j hj => by
      dsimp only
      by_cases c : j = k
      · subst c; rw [pk_us]; exact hy
      · rw [pk_un c]; exact f2 j (by omega)⟩
    have v : vp_in (nI k) 25 := (vin_n (by omega)).mpr (by omega)
    exact ⟨fun q2 => ⟨v, key _ (by unfold T0; rw [if_neg (by omega)])⟩, fun q2 => ⟨v, key _ (by unfold T0; rw [if_pos (by omega)])⟩⟩
  have : k = 25 := by omega
  subst this
  -- all lines
  have hM0 : MP ps0 0 rr1 rt1 rg rs rw0 := ⟨⟨e2 0 (by omega), e2 1 (by omega), e2 2 (by omega), e2 3 (by omega), e2 4 (by omega), e2 5 (by omega), e2 6 (by omega), e2 7 (by omega)⟩, ⟨rfl, by decide, by decide, by decide⟩, fun p hp => f2 p hp, ⟨e2 7 (by omega), fun g hg => absurd hg (Nat.not_lt_zero g)⟩, fun g hg => absurd hg (Nat.not_lt_zero g), ⟨e2 5 (by omega), fun g hg => absurd hg (Nat.not_lt_zero g)⟩⟩
  have main : ∀ x : Int32 × Int32 × Int32 × Int32 × Int32 × Int32 × Int32 × Int32 × (Nat → Int32) × (Nat → Int32) × (Nat → Int32) × (Nat → Int32) × (Nat → Int32), (x.1 = 0 ∧ MP ps0 x.2.2.2.2.2.2.2.1 x.2.2.2.2.2.2.2.2.2.2.2.2 x.2.2.2.2.2.2.2.2.1 x.2.2.2.2.2.2.2.2.2.2.2.1 x.2.2.2.2.2.2.2.2.2.2.1 x.2.2.2.2.2.2.2.2.2.1 ∧ (((tkn B n 0).1 = 0 ∧ x.2.1 = 1 ∧ x.2.2.1 = nI (tf B n 0)) ∨ (¬ (tkn B n 0).1 = 0 ∧ x.2.1 = 0 ∧ x.2.2.2.1 = nI (te B n 0) ∧ x.2.2.2.2.1 = nI (tf B n 0) ∧ x.2.2.2.2.2.1 = nI ((tkn B n 0).1 - 1) ∧ x.2.2.2.2.2.2.1 = nI (tv B n 0)))) → ∃ m, fixN (F_X12_code_80 tape cu lt (nI n) aw km st wo sh gd ru post) m x := by
    intro x hx
    refine fix_iv (fun j v => (¬ (lns B n 320 ps0 0 0).1 = 0 ∧ v.2.1 = nI (lns B n 320 ps0 0 0).1 ∧ v.2.2.1 = nI (lns B n 320 ps0 0 0).2.1) ∨ ∃ s a, v.1 = nI j ∧ j ≤ a ∧ a ≤ n ∧ okPs s ∧ MP s v.2.2.2.2.2.2.2.1 v.2.2.2.2.2.2.2.2.2.2.2.2 v.2.2.2.2.2.2.2.2.1 v.2.2.2.2.2.2.2.2.2.2.2.1 v.2.2.2.2.2.2.2.2.2.2.1 v.2.2.2.2.2.2.2.2.2.1 ∧ lns B n (320 - j) s a j = lns B n 320 ps0 0 0 ∧ ¬ (tkn B n a).1 = 0 ∧ v.2.1 = 0 ∧ v.2.2.2.1 = nI (te B n a) ∧ v.2.2.2.2.1 = nI (tf B n a) ∧ v.2.2.2.2.2.1 = nI ((tkn B n a).1 - 1) ∧ v.2.2.2.2.2.2.1 = nI (tv B n a)) 320 (fun K j v hj hI hK => ?_) 0 (by omega) ?_
    rotate_left
    · obtain ⟨x1, xM, ⟨k0, b1, b2⟩ | ⟨k0, b1, b2⟩⟩ := hx
      · left
        have e : lns B n 320 ps0 0 0 = (1, tf B n 0, ps0, 0) := by
          have el : lne B n ps0 0 = (1, tf B n 0, ps0, 0) := by unfold lne; rw [if_pos k0]
          rw [show (320 : Nat) = 319 + 1 from rfl, lns, if_neg (by omega), el, if_neg (show ¬ (1 : Nat) = 0 by decide)]
        rw [e]; exact ⟨show ¬ (1 : Nat) = 0 by decide, b1, b2⟩
      · right
        exact ⟨ps0, 0, x1, Nat.le_refl 0, Nat.zero_le n, okPs_0, xM, rfl, k0, b1, b2⟩
    · obtain ⟨x1, br, ba', sp', he', to', va', tn', rt', rw', rs', rg', rr'⟩ := v
      unfold F_X12_code_80
      dsimp only at hI ⊢
      rcases hI with ⟨g1, g2, g3⟩ | ⟨s, a, g1, g2, g3, g4, g5, g6, g7, g8, g9, g10, g11, g12⟩
      · subst g2; subst g3
        have h6 : (lns B n 320 ps0 0 0).1 ≤ 6 := lns_6 320
        have hb : B_X12_code_104 x1 (nI (lns B n 320 ps0 0 0).1) (nI (lns B n 320 ps0 0 0).2.1) sp' he' to' va' tn' aw km st rt' wo rw' sh rs' gd rg' ru rr' post := by
          unfold B_X12_code_104
          exact ⟨fun _ => brk _ _ _ _ _ _ _ _ _ _ _ _ _ g1 h6 (h0 g1), fun z => absurd z (bne _ g1 h6)⟩
        exact ⟨fun _ => hb, fun z => absurd z (bne _ g1 h6)⟩
      · subst g1; subst g8; subst g9; subst g10; subst g11; subst g12
        have hr := tk_rng (B := B) hn g3
        have e0 : nI ((tkn B n a).1 - 1) = 0 ↔ (tkn B n a).1 = 1 := by rw [i0, nI_eq (by omega) (by omega)]; omega
        rw [e0]
        refine ⟨fun z => absurd rfl z, fun _ => ⟨fun z => ?_, fun z => ?_⟩⟩
        · -- the end
          have e : lns B n 320 ps0 0 0 = (0, 0, s, j) := by
            rw [← g6]
            rcases Nat.lt_or_ge j 320 with y | y
            · rw [show 320 - j = (319 - j) + 1 by omega, lns, if_pos z]
            · rw [show 320 - j = 0 by omega, lns]
          rw [e] at h1 h2
          unfold B_X12_code_104
          refine ⟨fun y => absurd rfl y, fun _ => sp_areRead g4 g5 (fun c => ⟨fun y => absurd rfl y, fun _ => ?_⟩) (fun c => ⟨fun _ => ?_, fun y => absurd y (by decide)⟩)⟩
          · unfold wp_X12_fails
            rw [tkn_1 g3 z]
            exact ⟨fun y => absurd rfl y, fun _ => brk 6 _ _ _ _ _ _ _ _ _ _ _ _ (by decide) (by decide) (h1 rfl c)⟩
          · unfold B_X12_code_124
            refine ⟨fun _ => sp_takeAll (s := s) g5.2.2.1 (fun km' st' wo' sh' gd' ru' c1 c2 c3 c4 c5 c6 c7 c8 => ?_), fun y => absurd (by decide) y⟩
            obtain ⟨m1, m2, m3, m4, m5, m6⟩ := g5
            obtain ⟨q1, q2, q3, q4, q5, q6, q7, q8, q9⟩ := g4.1
            refine h2 rfl c _ _ _ _ _ _ _ _ _ _ _ _ _ _ _ _ _ c1 c2 c3 c4 ?_ ?_ ?_ ?_
            · exact ⟨(c8 0 (by omega)).trans m1.1, (c8 1 (by omega)).trans m1.2.1, (c8 2 (by omega)).trans m1.2.2.1, (c8 3 (by omega)).trans m1.2.2.2.1, (c8 4 (by omega)).trans m1.2.2.2.2.1, (c8 5 (by omega)).trans m1.2.2.2.2.2.1, (c8 6 (by omega)).trans m1.2.2.2.2.2.2.1, (c8 7 (by omega)).trans m1.2.2.2.2.2.2.2⟩
            · refine ⟨(c8 7 (by omega)).trans m4.1, fun g hg => ?_⟩
              have hg : g < ngd s.1 := hg
              rw [c7 _ (by omega), c7 _ (by omega)]; exact m4.2 g hg
            · intro t ht
              have ht : t < nsh s.1 := ht
              have b := m5 t ht
              have bl := q8 t ht
              show sh' (13 * t + 3) = nI (sl s.1 t) ∧ sh' (13 * t + 12) = nI (ll s.1 t) ∧ (∀ k, k < sl s.1 t → sh' (13 * t + k) = nI (sc s.1 t k)) ∧ ∀ k, k < ll s.1 t → sh' (13 * t + 4 + k) = nI (lc s.1 t k)
              rw [c6 _ (by omega), c6 _ (by omega)]
              exact ⟨b.1, b.2.1, fun k hk => by rw [c6 _ (by omega)]; exact b.2.2.1 k hk, fun k hk => by rw [c6 _ (by omega)]; exact b.2.2.2 k hk⟩
            · refine ⟨(c8 5 (by omega)).trans m6.1, fun w hw => ?_⟩
              have hw : w < nw s.1 := hw
              have b := m6.2 w hw
              have bl := q7 w hw
              show wo' (10 * w + 8) = nI (wl s.1 w) ∧ wo' (10 * w + 9) = nI (ww s.1 w) ∧ ∀ k, k < wl s.1 w → wo' (10 * w + k) = nI (wc s.1 w k)
              rw [c5 _ (by omega), c5 _ (by omega)]
              exact ⟨b.1, b.2.1, fun k hk => by rw [c5 _ (by omega)]; exact b.2.2 k hk⟩
        · -- a line
          have hlt : a < n := by
            rcases Nat.lt_or_ge a n with y | y
            · exact y
            · exact absurd (show (tkn B n a).1 = 1 by rw [show a = n by omega]; exact tkn_n) z
          have e : lns B n 320 ps0 0 0 = if (lne B n s a).1 = 0 then lns B n (319 - j) (lne B n s a).2.2.1 (lne B n s a).2.2.2 (j + 1) else ((lne B n s a).1, (lne B n s a).2.1, s, j) := by
            rw [← g6, show 320 - j = (319 - j) + 1 by omega, lns, if_neg z]
          refine rl_line hn hB hC g3 g7 g4 g5 (fun y _ _ _ _ _ _ _ _ _ _ => ?_) (fun y y2 _ _ _ _ _ _ _ _ _ _ => ?_) (fun y y2 _ _ _ _ _ _ hM' => ?_)
          · rw [if_neg y] at e
            refine hK (by omega) _ (Or.inl ?_)
            rw [e]; exact ⟨y, rfl, rfl⟩
          · rw [if_pos y] at e
            have ok := lne_ok hn g3 g4 y
            have el : lne B n (lne B n s a).2.2.1 (lne B n s a).2.2.2 = (1, tf B n (lne B n s a).2.2.2, (lne B n s a).2.2.1, (lne B n s a).2.2.2) := by rw [lne, if_pos y2]
            have e2 : lns B n 320 ps0 0 0 = (1, tf B n (lne B n s a).2.2.2, (lne B n s a).2.2.1, j + 1) := by
              rcases Nat.lt_or_ge j 319 with w | w
              · rw [e, show 319 - j = (318 - j) + 1 by omega, lns, if_neg (by omega), el, if_neg (show ¬ (1 : Nat) = 0 by decide)]
              · exfalso
                have : (lne B n s a).2.2.2 = n := by omega
                rw [this, tkn_n] at y2; exact absurd y2 (by decide)
            refine hK (by omega) _ (Or.inl ?_)
            rw [e2]; exact ⟨show ¬ (1 : Nat) = 0 by decide, rfl, rfl⟩
          · rw [if_pos y] at e
            have ok := lne_ok hn g3 g4 y
            refine hK (by omega) _ (Or.inr ⟨(lne B n s a).2.2.1, (lne B n s a).2.2.2, ?_, by omega, ok.2.2, ok.1, hM', ?_, y2, rfl, rfl, rfl, rfl, rfl⟩)
            · show nI j + 1 = _; rw [nI_1]
            · rw [e, show 320 - (j + 1) = 319 - j by omega]
  exact rl_next (a := 0) hn hB (Nat.zero_le n) (fun z _ _ _ => main _ ⟨rfl, hM0, Or.inl ⟨z, rfl, rfl⟩⟩) (fun z => main _ ⟨rfl, hM0, Or.inr ⟨z, rfl, rfl, rfl, rfl, rfl⟩⟩)
end
