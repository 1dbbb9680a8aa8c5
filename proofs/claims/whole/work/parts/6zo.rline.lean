/-! a line of the reference -/
def MP (s : Ps) (tn : Int32) (rr rt rg rs rw0 : Nat → Int32) : Prop := MS s.1 rr ∧ (tn = nI (tdN s) ∧ s.2.2.1 ≤ 1 ∧ s.2.2.2.1 ≤ 1 ∧ s.2.2.2.2 ≤ 1) ∧ (∀ p, p < 25 → rt p = nI (s.2.1 p)) ∧ MG s.1 rr rg ∧ MH s.1 rs ∧ MW s.1 rr rw0
section
variable {d d' : PD} {rr rr' rg rs rw0 : Nat → Int32}
theorem tr_MG (h0 : d' 0 7 = d 0 7) (h8 : ∀ g, d' 8 g = d 8 g) (h9 : ∀ g, d' 9 g = d 9 g) (hr : rr' 7 = rr 7) (h : MG d rr rg) : MG d' rr' rg := by
  have e0 : ngd d' = ngd d := h0
  unfold MG at h ⊢
  rw [e0, hr]
  exact ⟨h.1, fun g hg => by rw [h8, h9]; exact h.2 g hg⟩
theorem tr_MH (h0 : d' 0 1 = d 0 1) (h4 : ∀ w, d' 4 w = d 4 w) (h5 : ∀ w, d' 5 w = d 5 w) (h6 : ∀ j, d' 6 j = d 6 j) (h7 : ∀ j, d' 7 j = d 7 j) (h : MH d rs) : MH d' rs := by
  have e0 : nsh d' = nsh d := h0
  have e1 : sl d' = sl d := funext h4
  have e2 : ll d' = ll d := funext h6
  have e3 : sc d' = sc d := by funext w k; exact h5 _
  have e4 : lc d' = lc d := by funext w k; exact h7 _
  unfold MH at h ⊢
  intro s hs
  rw [e0] at hs
  show rs (13 * s + 3) = nI (sl d' s) ∧ rs (13 * s + 12) = nI (ll d' s) ∧ (∀ k, k < sl d' s → rs (13 * s + k) = nI (sc d' s k)) ∧ ∀ k, k < ll d' s → rs (13 * s + 4 + k) = nI (lc d' s k)
  rw [e1, e2, e3, e4]
  exact h s hs
theorem tr_MW (h0 : d' 0 0 = d 0 0) (h1 : ∀ w, d' 1 w = d 1 w) (h2 : ∀ w, d' 2 w = d 2 w) (h3 : ∀ j, d' 3 j = d 3 j) (hr : rr' 5 = rr 5) (h : MW d rr rw0) : MW d' rr' rw0 := by
  have e0 : nw d' = nw d := h0
  have e1 : wl d' = wl d := funext h1
  have e2 : ww d' = ww d := funext h2
  have e3 : wc d' = wc d := by funext w k; exact h3 _
  unfold MW at h ⊢
  rw [e0, hr]
  refine ⟨h.1, fun w hw => ?_⟩
  show rw0 (10 * w + 8) = nI (wl d' w) ∧ rw0 (10 * w + 9) = nI (ww d' w) ∧ ∀ k, k < wl d' w → rw0 (10 * w + k) = nI (wc d' w k)
  rw [e1, e2, e3]
  exact h.2 w hw
end
section
variable {B : Nat → Nat} {n a b : Nat} {s : Ps} {tape cu lt rr rt rg rs rw0 : Nat → Int32} {bra sp he to va tn : Int32}
theorem rl_58 (hn : n ≤ 320) (hB : ∀ k, k < n → B k < 256 ∧ tape k = nI (B k)) (hb : b ≤ n) (hk : ¬ (tkn B n b).1 = 0) {post : Int32 → Int32 → Int32 → Int32 → Int32 → Int32 → Int32 → (Nat → Int32) → (Nat → Int32) → (Nat → Int32) → (Nat → Int32) → (Nat → Int32) → Prop}
    (h0 : ¬ fSi B n b = 0 → ∀ sp' he' to' va', post (nI (fSi B n b)) (nI (tf B n b)) sp' he' to' va' tn rr rt rg rs rw0)
    (h1 : fSi B n b = 0 → (tkn B n (te B n b)).1 = 0 → ∀ sp' he' to' va', post 1 (nI (tf B n (te B n b))) sp' he' to' va' tn rr rt rg rs rw0)
    (h2 : fSi B n b = 0 → ¬ (tkn B n (te B n b)).1 = 0 → post 0 bra (nI (te B n (te B n b))) (nI (tf B n (te B n b))) (nI ((tkn B n (te B n b)).1 - 1)) (nI (tv B n (te B n b))) tn rr rt rg rs rw0) :
    B_X12_readLine_58 (nI n) tape 0 bra (nI (te B n b)) (nI (tf B n b)) (nI ((tkn B n b).1 - 1)) (nI (tv B n b)) tn rr rt rg rs rw0 post := by
  have hr := tk_rng (B := B) hn hb
  unfold B_X12_readLine_58
  have e3 : nI ((tkn B n b).1 - 1) = 3 ↔ (tkn B n b).1 = 4 := by rw [i3, nI_eq (by omega) (by omega)]; omega
  rw [e3]
  refine ⟨fun q => absurd rfl q, fun _ => ⟨fun q => ?_, fun q => ?_⟩⟩
  · have ef : fSi B n b = 0 := by unfold fSi; rw [if_neg hk, if_neg (fun t => t q)]
    exact rl_next hn hB hr.2.2.1 (fun z _ _ _ => h1 ef z _ _ _ _) (fun z => h2 ef z)
  · have ef : fSi B n b = 2 := by unfold fSi; rw [if_neg hk, if_pos q]
    rw [ef] at h0
    unfold wp_X12_fails
    exact ⟨fun t => absurd rfl t, fun _ => sp_next_no (b := 2) (by omega) (by omega) (h0 (by decide) _ _ _ _)⟩
theorem rl_58n {f : Nat} (hf : ¬ f = 0) (hf9 : f ≤ 9) {post : Int32 → Int32 → Int32 → Int32 → Int32 → Int32 → Int32 → (Nat → Int32) → (Nat → Int32) → (Nat → Int32) → (Nat → Int32) → (Nat → Int32) → Prop} (h : post (nI f) bra sp he to va tn rr rt rg rs rw0) : B_X12_readLine_58 (nI n) tape (nI f) bra sp he to va tn rr rt rg rs rw0 post := by
  have e0 : ¬ nI f = 0 := fun z => by have := (nI_eq (b := 0) (by omega) (by omega)).mp z; omega
  unfold B_X12_readLine_58
  exact ⟨fun _ => sp_next_no (by omega) hf9 h, fun q => absurd q e0⟩
theorem rl_line (hn : n ≤ 320) (hB : ∀ k, k < n → B k < 256 ∧ tape k = nI (B k)) (hC : MK cu lt) (ha : a ≤ n) (hk0 : ¬ (tkn B n a).1 = 0) (hs : okPs s) (hM : MP s tn rr rt rg rs rw0) {post : Int32 → Int32 → Int32 → Int32 → Int32 → Int32 → Int32 → (Nat → Int32) → (Nat → Int32) → (Nat → Int32) → (Nat → Int32) → (Nat → Int32) → Prop}
    (h0 : ¬ (lne B n s a).1 = 0 → ∀ sp' he' to' va' tn' rr' rt' rg' rs' rw', post (nI (lne B n s a).1) (nI (lne B n s a).2.1) sp' he' to' va' tn' rr' rt' rg' rs' rw')
    (h1 : (lne B n s a).1 = 0 → (tkn B n (lne B n s a).2.2.2).1 = 0 → ∀ sp' he' to' va' tn' rr' rt' rg' rs' rw', post 1 (nI (tf B n (lne B n s a).2.2.2)) sp' he' to' va' tn' rr' rt' rg' rs' rw')
    (h2 : (lne B n s a).1 = 0 → ¬ (tkn B n (lne B n s a).2.2.2).1 = 0 → ∀ tn' rr' rt' rg' rs' rw', MP (lne B n s a).2.2.1 tn' rr' rt' rg' rs' rw' → post 0 bra (nI (te B n (lne B n s a).2.2.2)) (nI (tf B n (lne B n s a).2.2.2)) (nI ((tkn B n (lne B n s a).2.2.2).1 - 1)) (nI (tv B n (lne B n s a).2.2.2)) tn' rr' rt' rg' rs' rw') :
    wp_X12_readLine (nI n) 0 bra (nI (te B n a)) (nI (tf B n a)) (nI ((tkn B n a).1 - 1)) (nI (tv B n a)) tn cu tape lt rr rt rg rs rw0 post := by
  have hr := tk_rng (B := B) hn ha
  obtain ⟨x1, ⟨x2, x2a, x2b, x2c⟩, x3, x4, x5, x6⟩ := hM
  subst x2
  have h6l := lne_6 (B := B) (n := n) (a := a) (s := s)
  have hru6 := x1.2.2.2.2.2.2.1
  have bad : ∀ F, ¬ F = 0 → lne B n s a = (F, tf B n a, s, a) → ∀ sp' he' to' va' tn' rr' rt' rg' rs' rw', post (nI F) (nI (tf B n a)) sp' he' to' va' tn' rr' rt' rg' rs' rw' := fun F hF e => by
    rw [e] at h0; exact h0 hF
  -- a line up to its sign
  have fin : ∀ (s' : Ps) (b : Nat), lne B n s a = lnS B n s' b → b ≤ n → ¬ (tkn B n b).1 = 0 → ∀ tn' rr' rt' rg' rs' rw', MP s' tn' rr' rt' rg' rs' rw' → B_X12_readLine_58 (nI n) tape 0 bra (nI (te B n b)) (nI (tf B n b)) (nI ((tkn B n b).1 - 1)) (nI (tv B n b)) tn' rr' rt' rg' rs' rw' post := fun s' b e hb hkb tn' rr' rt' rg' rs' rw' hM' => by
    rw [e] at h0 h1 h2
    unfold lnS at h0 h1 h2
    refine rl_58 hn hB hb hkb (fun z sp' he' to' va' => ?_) (fun z z2 sp' he' to' va' => ?_) (fun z z2 => ?_)
    · rw [thn_n z] at h0; exact h0 z _ _ _ _ _ _ _ _ _ _
    · rw [thn_0 z] at h1; exact h1 rfl z2 _ _ _ _ _ _ _ _ _ _
    · rw [thn_0 z] at h2; exact h2 rfl z2 _ _ _ _ _ _ hM'
  have brk : ∀ (r : Pr), lne B n s a = r → ¬ r.1 = 0 → ∀ sp' he' to' va' tn' rr' rt' rg' rs' rw', B_X12_readLine_58 (nI n) tape (nI r.1) (nI r.2.1) sp' he' to' va' tn' rr' rt' rg' rs' rw' post := fun r e hz sp' he' to' va' tn' rr' rt' rg' rs' rw' => by
    rw [e] at h0 h6l
    exact rl_58n hz (by omega) (h0 hz _ _ _ _ _ _ _ _ _ _)
  unfold wp_X12_readLine
  refine sp_nameHere hn hB hC hr.2.1 hr.2.2.1 hr.2.2.2.1 hk0 (fun z => ⟨fun y => absurd rfl y, fun _ => ?_⟩) (fun z => ?_)
  · unfold wp_X12_fails
    exact ⟨fun t => absurd rfl t, fun _ => bad 2 (by decide) (by unfold lne; rw [if_neg hk0, if_pos z]) _ _ _ _ _ _ _ _ _ _⟩
  · have el := lne_at (s := s) hk0 z
    have h6 : nmF B (tf B n a) (te B n a) ≤ 6 := fnd_le _ _
    rcases (show nmF B (tf B n a) (te B n a) = 0 ∨ nmF B (tf B n a) (te B n a) = 1 ∨ nmF B (tf B n a) (te B n a) = 2 ∨ nmF B (tf B n a) (te B n a) = 3 ∨ nmF B (tf B n a) (te B n a) = 4 ∨ nmF B (tf B n a) (te B n a) = 5 ∨ nmF B (tf B n a) (te B n a) = 6 by omega) with hk | hk | hk | hk | hk | hk | hk
    · -- table
      have e := el.1 hk
      rw [hk, if_pos (by decide)]
      refine ⟨fun _ => ⟨fun _ => ⟨fun _ => ⟨fun _ => ?_, fun t => absurd t (by decide)⟩, fun t => absurd t (by decide)⟩, fun t => absurd t (by decide)⟩, fun t => absurd t (by decide)⟩
      refine rl_T (a0 := a) hn hB hr.2.2.1 x2a x2b x2c (fun y _ _ _ _ _ _ _ => brk _ e y _ _ _ _ _ _ _ _ _ _) (fun f b ee hb hkb rt' hrt => fin _ b (e.trans ee) hb hkb _ _ _ _ _ _ ⟨x1, ⟨rfl, Nat.le_refl 1, x2b, x2c⟩, hrt, x4, x5, x6⟩)
    · -- word
      have e := el.2.1 hk
      rw [hk, if_pos (by decide)]
      refine ⟨fun _ => ⟨fun t => absurd rfl t, fun _ => ?_⟩, fun t => absurd t (by decide)⟩
      refine rl_W (a0 := a) hn hB hr.2.2.1 hs.1 x6 (fun y _ _ _ _ _ _ => brk _ e y _ _ _ _ _ _ _ _ _ _) (fun f e1 v b ee hb hkb rw' hrw => fin _ b (e.trans ee) hb hkb _ _ _ _ _ _ ⟨?_, ⟨rfl, x2a, x2b, x2c⟩, x3, ?_, ?_, hrw⟩)
      · show MS (adW B s.1 f e1 v) _
        have ek : ∀ k, 1 ≤ k → adW B s.1 f e1 v 0 k = s.1 0 k := fun k hk => by rw [adW_0, if_neg (by omega)]
        unfold MS at x1 ⊢
        rw [ek 2 (by omega), ek 3 (by omega), ek 4 (by omega), ek 5 (by omega), ek 6 (by omega), ek 1 (by omega), ek 7 (by omega), adW_0, if_pos rfl, pk_us, pk_un (by omega), pk_un (by omega), pk_un (by omega), pk_un (by omega), pk_un (by omega), pk_un (by omega), pk_un (by omega)]
        exact ⟨x1.1, x1.2.1, x1.2.2.1, x1.2.2.2.1, x1.2.2.2.2.1, rfl, x1.2.2.2.2.2.2⟩
      · exact tr_MG (d := s.1) (d' := adW B s.1 f e1 v) (by rw [adW_0, if_neg (by omega)]) (fun w => adW_o (by decide) w) (fun w => adW_o (by decide) w) (pk_un (by omega)) x4
      · exact tr_MH (d := s.1) (d' := adW B s.1 f e1 v) (by rw [adW_0, if_neg (by omega)]) (fun w => adW_o (by decide) w) (fun w => adW_o (by decide) w) (fun w => adW_o (by decide) w) (fun w => adW_o (by decide) w) x5
    · -- short
      have e := el.2.2.1 hk
      rw [hk, if_pos (by decide)]
      refine ⟨fun _ => ⟨fun _ => ⟨fun t => absurd rfl t, fun _ => ?_⟩, fun t => absurd t (by decide)⟩, fun t => absurd t (by decide)⟩
      refine rl_H (a0 := a) hn hB hr.2.2.1 hs.1 hru6 x5 (fun y _ _ _ _ _ _ => brk _ e y _ _ _ _ _ _ _ _ _ _) (fun f e1 f' e1' b ee hb hkb rs' hrs => fin _ b (e.trans ee) hb hkb _ _ _ _ _ _ ⟨?_, ⟨rfl, x2a, x2b, x2c⟩, x3, ?_, hrs, ?_⟩)
      · show MS (adS B s.1 f e1 f' e1') _
        have ek : ∀ k, ¬ k = 1 → adS B s.1 f e1 f' e1' 0 k = s.1 0 k := fun k hk => by rw [adS_0, if_neg hk]
        unfold MS at x1 ⊢
        rw [ek 2 (by omega), ek 3 (by omega), ek 4 (by omega), ek 5 (by omega), ek 6 (by omega), ek 0 (by omega), ek 7 (by omega), adS_0, if_pos rfl, pk_us, pk_un (by omega), pk_un (by omega), pk_un (by omega), pk_un (by omega), pk_un (by omega), pk_un (by omega), pk_un (by omega)]
        exact ⟨x1.1, x1.2.1, x1.2.2.1, x1.2.2.2.1, x1.2.2.2.2.1, x1.2.2.2.2.2.1, rfl, x1.2.2.2.2.2.2.2⟩
      · exact tr_MG (d := s.1) (d' := adS B s.1 f e1 f' e1') (by rw [adS_0, if_neg (by omega)]) (fun w => adS_o (by decide) (by decide) (by decide) (by decide) (by decide) w) (fun w => adS_o (by decide) (by decide) (by decide) (by decide) (by decide) w) (pk_un (by omega)) x4
      · exact tr_MW (d := s.1) (d' := adS B s.1 f e1 f' e1') (by rw [adS_0, if_neg (by omega)]) (fun w => adS_o (by decide) (by decide) (by decide) (by decide) (by decide) w) (fun w => adS_o (by decide) (by decide) (by decide) (by decide) (by decide) w) (fun w => adS_o (by decide) (by decide) (by decide) (by decide) (by decide) w) (pk_un (by omega)) x6
    · -- slip
      have e := el.2.2.2.1 hk
      rw [hk, if_pos (by decide)]
      refine ⟨fun _ => ⟨fun _ => ⟨fun _ => ⟨fun _ => ?_, fun t => absurd t (by decide)⟩, fun t => absurd t (by decide)⟩, fun t => absurd t (by decide)⟩, fun t => absurd t (by decide)⟩
      refine rl_P (a0 := a) hn hB hr.2.2.1 x2a x2b x2c (fun y _ _ _ _ _ _ _ => brk _ e y _ _ _ _ _ _ _ _ _ _) (fun x y b ee hb hkb => fin _ b (e.trans ee) hb hkb _ _ _ _ _ _ ⟨?_, ⟨rfl, x2a, Nat.le_refl 1, x2c⟩, x3, ?_, ?_, ?_⟩)
      · show MS (sS (sS s.1 2 x) 3 y) _
        unfold MS at x1 ⊢
        simp only [sS_0]
        rw [pk_un (show (0 : Nat) ≠ 1 by decide), pk_us, pk_us, pk_un (show (2 : Nat) ≠ 1 by decide), pk_un (show (2 : Nat) ≠ 0 by decide), pk_un (show (3 : Nat) ≠ 1 by decide), pk_un (show (3 : Nat) ≠ 0 by decide), pk_un (show (4 : Nat) ≠ 1 by decide), pk_un (show (4 : Nat) ≠ 0 by decide), pk_un (show (5 : Nat) ≠ 1 by decide), pk_un (show (5 : Nat) ≠ 0 by decide), pk_un (show (6 : Nat) ≠ 1 by decide), pk_un (show (6 : Nat) ≠ 0 by decide), pk_un (show (7 : Nat) ≠ 1 by decide), pk_un (show (7 : Nat) ≠ 0 by decide)]
        exact ⟨rfl, rfl, x1.2.2⟩
      · exact tr_MG (d := s.1) (d' := sS (sS s.1 2 x) 3 y) (by simp only [sS_0]; rfl) (fun w => by rw [sS_o (by decide), sS_o (by decide)]) (fun w => by rw [sS_o (by decide), sS_o (by decide)]) (by rw [pk_un (by omega), pk_un (by omega)]) x4
      · exact tr_MH (d := s.1) (d' := sS (sS s.1 2 x) 3 y) (by simp only [sS_0]; rfl) (fun w => by rw [sS_o (by decide), sS_o (by decide)]) (fun w => by rw [sS_o (by decide), sS_o (by decide)]) (fun w => by rw [sS_o (by decide), sS_o (by decide)]) (fun w => by rw [sS_o (by decide), sS_o (by decide)]) x5
      · exact tr_MW (d := s.1) (d' := sS (sS s.1 2 x) 3 y) (by simp only [sS_0]; rfl) (fun w => by rw [sS_o (by decide), sS_o (by decide)]) (fun w => by rw [sS_o (by decide), sS_o (by decide)]) (fun w => by rw [sS_o (by decide), sS_o (by decide)]) (by rw [pk_un (by omega), pk_un (by omega)]) x6
    · -- time
      have e := el.2.2.2.2.1 hk
      rw [hk, if_pos (by decide)]
      refine ⟨fun _ => ⟨fun _ => ⟨fun _ => ⟨fun _ => ?_, fun t => absurd t (by decide)⟩, fun t => absurd t (by decide)⟩, fun t => absurd t (by decide)⟩, fun t => absurd t (by decide)⟩
      refine rl_M (a0 := a) hn hB hr.2.2.1 x2a x2b x2c (fun y _ _ _ _ _ _ _ => brk _ e y _ _ _ _ _ _ _ _ _ _) (fun x y w b ee hb hkb => fin _ b (e.trans ee) hb hkb _ _ _ _ _ _ ⟨?_, ⟨rfl, x2a, x2b, Nat.le_refl 1⟩, x3, ?_, ?_, ?_⟩)
      · show MS (sS (sS (sS s.1 4 x) 5 y) 6 w) _
        unfold MS at x1 ⊢
        simp only [sS_0]
        rw [pk_un (show (0 : Nat) ≠ 4 by decide), pk_un (show (0 : Nat) ≠ 3 by decide), pk_un (show (0 : Nat) ≠ 2 by decide), pk_un (show (1 : Nat) ≠ 4 by decide), pk_un (show (1 : Nat) ≠ 3 by decide), pk_un (show (1 : Nat) ≠ 2 by decide), pk_un (show (2 : Nat) ≠ 4 by decide), pk_un (show (2 : Nat) ≠ 3 by decide), pk_us, pk_un (show (3 : Nat) ≠ 4 by decide), pk_us, pk_us, pk_un (show (5 : Nat) ≠ 4 by decide), pk_un (show (5 : Nat) ≠ 3 by decide), pk_un (show (5 : Nat) ≠ 2 by decide), pk_un (show (6 : Nat) ≠ 4 by decide), pk_un (show (6 : Nat) ≠ 3 by decide), pk_un (show (6 : Nat) ≠ 2 by decide), pk_un (show (7 : Nat) ≠ 4 by decide), pk_un (show (7 : Nat) ≠ 3 by decide), pk_un (show (7 : Nat) ≠ 2 by decide)]
        exact ⟨x1.1, x1.2.1, rfl, rfl, rfl, x1.2.2.2.2.2⟩
      · exact tr_MG (d := s.1) (d' := sS (sS (sS s.1 4 x) 5 y) 6 w) (by simp only [sS_0]; rfl) (fun w => by rw [sS_o (by decide), sS_o (by decide), sS_o (by decide)]) (fun w => by rw [sS_o (by decide), sS_o (by decide), sS_o (by decide)]) (by rw [pk_un (by omega), pk_un (by omega), pk_un (by omega)]) x4
      · exact tr_MH (d := s.1) (d' := sS (sS (sS s.1 4 x) 5 y) 6 w) (by simp only [sS_0]; rfl) (fun w => by rw [sS_o (by decide), sS_o (by decide), sS_o (by decide)]) (fun w => by rw [sS_o (by decide), sS_o (by decide), sS_o (by decide)]) (fun w => by rw [sS_o (by decide), sS_o (by decide), sS_o (by decide)]) (fun w => by rw [sS_o (by decide), sS_o (by decide), sS_o (by decide)]) x5
      · exact tr_MW (d := s.1) (d' := sS (sS (sS s.1 4 x) 5 y) 6 w) (by simp only [sS_0]; rfl) (fun w => by rw [sS_o (by decide), sS_o (by decide), sS_o (by decide)]) (fun w => by rw [sS_o (by decide), sS_o (by decide), sS_o (by decide)]) (fun w => by rw [sS_o (by decide), sS_o (by decide), sS_o (by decide)]) (by rw [pk_un (by omega), pk_un (by omega), pk_un (by omega)]) x6
    · -- guard
      have e := el.2.2.2.2.2.1 hk
      rw [hk, if_pos (by decide)]
      refine ⟨fun _ => ⟨fun _ => ⟨fun _ => ⟨fun t => absurd rfl t, fun _ => ?_⟩, fun t => absurd t (by decide)⟩, fun t => absurd t (by decide)⟩, fun t => absurd t (by decide)⟩
      refine rl_G (a0 := a) hn hB hr.2.2.1 hs.1 x4 (fun y _ _ _ _ _ _ => brk _ e y _ _ _ _ _ _ _ _ _ _) (fun x y b ee hb hkb rg' hrg => fin _ b (e.trans ee) hb hkb _ _ _ _ _ _ ⟨?_, ⟨rfl, x2a, x2b, x2c⟩, x3, hrg, ?_, ?_⟩)
      · show MS (adG s.1 x y) _
        have ek : ∀ k, ¬ k = 7 → adG s.1 x y 0 k = s.1 0 k := fun k hk => by rw [adG_0, if_neg hk]
        unfold MS at x1 ⊢
        rw [ek 2 (by omega), ek 3 (by omega), ek 4 (by omega), ek 5 (by omega), ek 6 (by omega), ek 0 (by omega), ek 1 (by omega), adG_0, if_pos rfl, pk_us, pk_un (by omega), pk_un (by omega), pk_un (by omega), pk_un (by omega), pk_un (by omega), pk_un (by omega), pk_un (by omega)]
        exact ⟨x1.1, x1.2.1, x1.2.2.1, x1.2.2.2.1, x1.2.2.2.2.1, x1.2.2.2.2.2.1, x1.2.2.2.2.2.2.1, rfl⟩
      · exact tr_MH (d := s.1) (d' := adG s.1 x y) (by rw [adG_0, if_neg (by decide)]) (fun w => adG_o (by decide) (by decide) (by decide) w) (fun w => adG_o (by decide) (by decide) (by decide) w) (fun w => adG_o (by decide) (by decide) (by decide) w) (fun w => adG_o (by decide) (by decide) (by decide) w) x5
      · exact tr_MW (d := s.1) (d' := adG s.1 x y) (by rw [adG_0, if_neg (by decide)]) (fun w => adG_o (by decide) (by decide) (by decide) w) (fun w => adG_o (by decide) (by decide) (by decide) w) (fun w => adG_o (by decide) (by decide) (by decide) w) (pk_un (by omega)) x6
    · -- no name of a line
      rw [hk, if_neg (by decide)]
      unfold wp_X12_fails
      exact ⟨fun y => absurd rfl y, fun _ => ⟨fun t => absurd rfl t, fun _ => bad 2 (by decide) (el.2.2.2.2.2.2 hk) _ _ _ _ _ _ _ _ _ _⟩⟩
end
