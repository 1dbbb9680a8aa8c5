/-! what a line keeps: bounds, and that it goes on -/
def okPs (s : Ps) : Prop := okP s.1 ∧ okT s.2.1
section
variable {B : Nat → Nat} {d : PD} {f e f' e' v : Nat}
theorem okP_adW (h : okP d) (hn : nw d < 10) (h1 : 1 ≤ e - f) (h8 : e - f ≤ 8) (hv : 1 ≤ v ∧ v ≤ 99) (hl : ∀ k, k < e - f → isLt (B (f + k)) = true) : okP (adW B d f e v) := by
  obtain ⟨g1, g2, g3, g4, g5, g6, g7, g8, g9⟩ := h
  have e0 : nw (adW B d f e v) = nw d + 1 := by show adW _ _ _ _ _ 0 0 = _; rw [adW_0, if_pos rfl]
  have ek : ∀ k, 1 ≤ k → adW B d f e v 0 k = d 0 k := fun k hk => by rw [adW_0, if_neg (by omega)]
  refine ⟨by omega, by show adW _ _ _ _ _ 0 1 ≤ 6; rw [ek 1 (by omega)]; exact g2, by show adW _ _ _ _ _ 0 7 ≤ 6; rw [ek 7 (by omega)]; exact g3, by show adW _ _ _ _ _ 0 2 ≤ 9; rw [ek 2 (by omega)]; exact g4, by show adW _ _ _ _ _ 0 3 ≤ 9; rw [ek 3 (by omega)]; exact g5, fun i hi h6 => by rw [ek i (by omega)]; exact g6 i hi h6, fun w hw => ?_, fun s hs => ?_, fun g hg => ?_⟩
  · rw [e0] at hw
    have ew : wl (adW B d f e v) w = if w = nw d then e - f else wl d w := adW_1 w
    have ev : ww (adW B d f e v) w = if w = nw d then v else ww d w := adW_2 w
    rw [ew, ev]
    by_cases c : w = nw d
    · rw [if_pos c, if_pos c]
      refine ⟨h1, h8, hv.1, hv.2, fun k hk => ?_⟩
      rw [adW_wc w k (by omega) (by omega), if_pos c]
      have := isLt_iff.mp (hl k hk); omega
    · rw [if_neg c, if_neg c]
      have b := g7 w (by omega)
      refine ⟨b.1, b.2.1, b.2.2.1, b.2.2.2.1, fun k hk => ?_⟩
      rw [adW_wc w k (by omega) (by omega), if_neg c]; exact b.2.2.2.2 k hk
  · have hs : s < nsh d := by have hs : s < adW B d f e v 0 1 := hs; rw [ek 1 (by omega)] at hs; exact hs
    have b := g8 s hs
    show 1 ≤ adW _ _ _ _ _ 4 s ∧ adW _ _ _ _ _ 4 s ≤ 3 ∧ 2 ≤ adW _ _ _ _ _ 6 s ∧ adW _ _ _ _ _ 6 s ≤ 8 ∧ (∀ k, k < adW _ _ _ _ _ 4 s → adW _ _ _ _ _ 5 (3 * s + k) < 26) ∧ ∀ k, k < adW _ _ _ _ _ 6 s → adW _ _ _ _ _ 7 (8 * s + k) < 26
    simp only [adW_o (show 4 ≤ 4 by decide), adW_o (show 4 ≤ 5 by decide), adW_o (show 4 ≤ 6 by decide), adW_o (show 4 ≤ 7 by decide)]
    exact b
  · have hg : g < ngd d := by have hg : g < adW B d f e v 0 7 := hg; rw [ek 7 (by omega)] at hg; exact hg
    simp only [adW_o (show 4 ≤ 8 by decide), adW_o (show 4 ≤ 9 by decide)]
    exact g9 g hg
theorem okP_adS (h : okP d) (hn : nsh d < 6) (h1 : 1 ≤ e - f) (h3 : e - f ≤ 3) (h2 : 2 ≤ e' - f') (h8 : e' - f' ≤ 8) (hl : ∀ k, k < e - f → isLt (B (f + k)) = true) (hl' : ∀ k, k < e' - f' → isLt (B (f' + k)) = true) : okP (adS B d f e f' e') := by
  obtain ⟨g1, g2, g3, g4, g5, g6, g7, g8, g9⟩ := h
  have e0 : nsh (adS B d f e f' e') = nsh d + 1 := by show adS _ _ _ _ _ _ 0 1 = _; rw [adS_0, if_pos rfl]
  have ek : ∀ k, k ≠ 1 → adS B d f e f' e' 0 k = d 0 k := fun k hk => by rw [adS_0, if_neg hk]
  have eo : ∀ i, 1 ≤ i → i ≠ 4 → i ≠ 5 → i ≠ 6 → i ≠ 7 → ∀ j, adS B d f e f' e' i j = d i j := fun i a b c d' e' j => adS_o a b c d' e' j
  refine ⟨by show adS _ _ _ _ _ _ 0 0 ≤ 10; rw [ek 0 (by omega)]; exact g1, by omega, by show adS _ _ _ _ _ _ 0 7 ≤ 6; rw [ek 7 (by omega)]; exact g3, by show adS _ _ _ _ _ _ 0 2 ≤ 9; rw [ek 2 (by omega)]; exact g4, by show adS _ _ _ _ _ _ 0 3 ≤ 9; rw [ek 3 (by omega)]; exact g5, fun i hi h6 => by rw [ek i (by omega)]; exact g6 i hi h6, fun w hw => ?_, fun s hs => ?_, fun g hg => ?_⟩
  · have hw : w < nw d := by have hw : w < adS B d f e f' e' 0 0 := hw; rw [ek 0 (by omega)] at hw; exact hw
    have b := g7 w hw
    show 1 ≤ adS _ _ _ _ _ _ 1 w ∧ adS _ _ _ _ _ _ 1 w ≤ 8 ∧ 1 ≤ adS _ _ _ _ _ _ 2 w ∧ adS _ _ _ _ _ _ 2 w ≤ 99 ∧ ∀ k, k < adS _ _ _ _ _ _ 1 w → adS _ _ _ _ _ _ 3 (8 * w + k) < 26
    simp only [eo 1 (by decide) (by decide) (by decide) (by decide) (by decide), eo 2 (by decide) (by decide) (by decide) (by decide) (by decide), eo 3 (by decide) (by decide) (by decide) (by decide) (by decide)]
    exact b
  · rw [e0] at hs
    have ew : sl (adS B d f e f' e') s = if s = nsh d then e - f else sl d s := adS_4 s
    have ev : ll (adS B d f e f' e') s = if s = nsh d then e' - f' else ll d s := adS_6 s
    rw [ew, ev]
    by_cases c : s = nsh d
    · rw [if_pos c, if_pos c]
      refine ⟨h1, h3, h2, h8, fun k hk => ?_, fun k hk => ?_⟩
      · rw [adS_sc s k (by omega) (by omega), if_pos c]
        have := isLt_iff.mp (hl k hk); omega
      · rw [adS_lc s k (by omega) (by omega), if_pos c]
        have := isLt_iff.mp (hl' k hk); omega
    · rw [if_neg c, if_neg c]
      have b := g8 s (by omega)
      refine ⟨b.1, b.2.1, b.2.2.1, b.2.2.2.1, fun k hk => ?_, fun k hk => ?_⟩
      · rw [adS_sc s k (by omega) (by omega), if_neg c]; exact b.2.2.2.2.1 k hk
      · rw [adS_lc s k (by omega) (by omega), if_neg c]; exact b.2.2.2.2.2 k hk
  · have hg : g < ngd d := by have hg : g < adS B d f e f' e' 0 7 := hg; rw [ek 7 (by omega)] at hg; exact hg
    simp only [eo 8 (by decide) (by decide) (by decide) (by decide) (by decide), eo 9 (by decide) (by decide) (by decide) (by decide) (by decide)]
    exact g9 g hg
theorem okP_adG {x y : Nat} (h : okP d) (hn : ngd d < 6) (hx : x < 600) (hy : 1 ≤ y ∧ y ≤ 60) : okP (adG d x y) := by
  obtain ⟨g1, g2, g3, g4, g5, g6, g7, g8, g9⟩ := h
  have ek : ∀ k, k ≠ 7 → adG d x y 0 k = d 0 k := fun k hk => by rw [adG_0, if_neg hk]
  have eo : ∀ i, 1 ≤ i → i ≠ 8 → i ≠ 9 → ∀ j, adG d x y i j = d i j := fun i a b c j => adG_o a b c j
  have e0 : ngd (adG d x y) = ngd d + 1 := by show adG _ _ _ 0 7 = _; rw [adG_0, if_pos rfl]
  refine ⟨by show adG _ _ _ 0 0 ≤ 10; rw [ek 0 (by omega)]; exact g1, by show adG _ _ _ 0 1 ≤ 6; rw [ek 1 (by omega)]; exact g2, by omega, by show adG _ _ _ 0 2 ≤ 9; rw [ek 2 (by omega)]; exact g4, by show adG _ _ _ 0 3 ≤ 9; rw [ek 3 (by omega)]; exact g5, fun i hi h6 => by rw [ek i (by omega)]; exact g6 i hi h6, fun w hw => ?_, fun s hs => ?_, fun g hg => ?_⟩
  · have hw : w < nw d := by have hw : w < adG d x y 0 0 := hw; rw [ek 0 (by omega)] at hw; exact hw
    have b := g7 w hw
    show 1 ≤ adG _ _ _ 1 w ∧ adG _ _ _ 1 w ≤ 8 ∧ 1 ≤ adG _ _ _ 2 w ∧ adG _ _ _ 2 w ≤ 99 ∧ ∀ k, k < adG _ _ _ 1 w → adG _ _ _ 3 (8 * w + k) < 26
    simp only [eo 1 (by decide) (by decide) (by decide), eo 2 (by decide) (by decide) (by decide), eo 3 (by decide) (by decide) (by decide)]
    exact b
  · have hs : s < nsh d := by have hs : s < adG d x y 0 1 := hs; rw [ek 1 (by omega)] at hs; exact hs
    have b := g8 s hs
    show 1 ≤ adG _ _ _ 4 s ∧ adG _ _ _ 4 s ≤ 3 ∧ 2 ≤ adG _ _ _ 6 s ∧ adG _ _ _ 6 s ≤ 8 ∧ (∀ k, k < adG _ _ _ 4 s → adG _ _ _ 5 (3 * s + k) < 26) ∧ ∀ k, k < adG _ _ _ 6 s → adG _ _ _ 7 (8 * s + k) < 26
    simp only [eo 4 (by decide) (by decide) (by decide), eo 5 (by decide) (by decide) (by decide), eo 6 (by decide) (by decide) (by decide), eo 7 (by decide) (by decide) (by decide)]
    exact b
  · rw [e0] at hg
    rw [adG_8, adG_9]
    by_cases c : g = ngd d
    · rw [if_pos c, if_pos c]; exact ⟨hx, hy⟩
    · rw [if_neg c, if_neg c]; exact g9 g (by omega)
theorem okP_sS {j v : Nat} (h : okP d) (hj : 2 ≤ j ∧ j ≤ 6) (hv : (j ≤ 3 → v ≤ 9) ∧ (4 ≤ j → 1 ≤ v ∧ v ≤ 99)) : okP (sS d j v) := by
  obtain ⟨g1, g2, g3, g4, g5, g6, g7, g8, g9⟩ := h
  have ek : ∀ k, k ≠ j → sS d j v 0 k = d 0 k := fun k hk => by rw [sS_0, if_neg hk]
  have eo : ∀ i, 1 ≤ i → ∀ k, sS d j v i k = d i k := fun i a k => sS_o a k
  refine ⟨by show sS _ _ _ 0 0 ≤ 10; rw [ek 0 (by omega)]; exact g1, by show sS _ _ _ 0 1 ≤ 6; rw [ek 1 (by omega)]; exact g2, by show sS _ _ _ 0 7 ≤ 6; rw [ek 7 (by omega)]; exact g3, ?_, ?_, fun i hi h6 => ?_, fun w hw => ?_, fun s hs => ?_, fun g hg => ?_⟩
  · show sS d j v 0 2 ≤ 9
    rw [sS_0]; split
    · exact hv.1 (by omega)
    · exact g4
  · show sS d j v 0 3 ≤ 9
    rw [sS_0]; split
    · exact hv.1 (by omega)
    · exact g5
  · rw [sS_0]; split
    · exact hv.2 (by omega)
    · exact g6 i hi h6
  · have hw : w < nw d := by have hw : w < sS d j v 0 0 := hw; rw [ek 0 (by omega)] at hw; exact hw
    have b := g7 w hw
    show 1 ≤ sS _ _ _ 1 w ∧ sS _ _ _ 1 w ≤ 8 ∧ 1 ≤ sS _ _ _ 2 w ∧ sS _ _ _ 2 w ≤ 99 ∧ ∀ k, k < sS _ _ _ 1 w → sS _ _ _ 3 (8 * w + k) < 26
    simp only [eo 1 (by decide), eo 2 (by decide), eo 3 (by decide)]
    exact b
  · have hs : s < nsh d := by have hs : s < sS d j v 0 1 := hs; rw [ek 1 (by omega)] at hs; exact hs
    have b := g8 s hs
    show 1 ≤ sS _ _ _ 4 s ∧ sS _ _ _ 4 s ≤ 3 ∧ 2 ≤ sS _ _ _ 6 s ∧ sS _ _ _ 6 s ≤ 8 ∧ (∀ k, k < sS _ _ _ 4 s → sS _ _ _ 5 (3 * s + k) < 26) ∧ ∀ k, k < sS _ _ _ 6 s → sS _ _ _ 7 (8 * s + k) < 26
    simp only [eo 4 (by decide), eo 5 (by decide), eo 6 (by decide), eo 7 (by decide)]
    exact b
  · have hg : g < ngd d := by have hg : g < sS d j v 0 7 := hg; rw [ek 7 (by omega)] at hg; exact hg
    simp only [eo 8 (by decide), eo 9 (by decide)]
    exact g9 g hg
end
section
variable {B : Nat → Nat} {n a a0 : Nat} {s : Ps}
theorem thn_inv {F : Nat} {r : Pr} (h : (thn B n s F a r).1 = 0) : F = 0 ∧ r.1 = 0 ∧ thn B n s F a r = r := by
  by_cases c : F = 0
  · rw [thn_0 c] at h ⊢; exact ⟨c, h, rfl⟩
  · rw [thn_n c] at h; exact absurd h c
theorem thn_6 {F : Nat} {r : Pr} (hF : F ≤ 3) (hr : r.1 ≤ 6) : (thn B n s F a r).1 ≤ 6 := by
  by_cases c : F = 0
  · rw [thn_0 c]; exact hr
  · rw [thn_n c]; show F ≤ 6; omega
theorem lnS_6 : (lnS B n s a).1 ≤ 6 := thn_6 fSi_9 (Nat.zero_le 6)
theorem lne_6 : (lne B n s a).1 ≤ 6 := by
  unfold lne
  split
  · exact (by decide : (1 : Nat) ≤ 6)
  · split
    · exact (by decide : (2 : Nat) ≤ 6)
    · split
      · unfold lnT; split
        · exact (by decide : (4 : Nat) ≤ 6)
        · refine thn_6 fNm_9 ?_
          split
          · exact lnS_6
          · exact (by decide : (3 : Nat) ≤ 6)
      · unfold lnW; split
        · exact (by decide : (5 : Nat) ≤ 6)
        · exact thn_6 fNm_9 (thn_6 fNu_9 lnS_6)
      · unfold lnH; split
        · exact (by decide : (5 : Nat) ≤ 6)
        · exact thn_6 fNm_9 (thn_6 fNm_9 lnS_6)
      · unfold lnP; split
        · exact (by decide : (4 : Nat) ≤ 6)
        · exact thn_6 fNu_9 (thn_6 fNu_9 lnS_6)
      · unfold lnM; split
        · exact (by decide : (4 : Nat) ≤ 6)
        · exact thn_6 fNu_9 (thn_6 fNu_9 (thn_6 fNu_9 lnS_6))
      · unfold lnG; split
        · exact (by decide : (5 : Nat) ≤ 6)
        · exact thn_6 fNu_9 (thn_6 fNu_9 lnS_6)
      · exact (by decide : (2 : Nat) ≤ 6)
theorem lnS_ok (hn : n ≤ 320) (ha : a ≤ n) (hs : okPs s) (h : (lnS B n s a).1 = 0) : okPs (lnS B n s a).2.2.1 ∧ a ≤ (lnS B n s a).2.2.2 ∧ (lnS B n s a).2.2.2 ≤ n := by
  have hr := tk_rng (B := B) hn ha
  have i := thn_inv h
  unfold lnS; rw [i.2.2]
  exact ⟨hs, by show a ≤ te B n a; omega, by show te B n a ≤ n; omega⟩
theorem lne_ok (hn : n ≤ 320) (ha : a ≤ n) (hs : okPs s) (h : (lne B n s a).1 = 0) : okPs (lne B n s a).2.2.1 ∧ a < (lne B n s a).2.2.2 ∧ (lne B n s a).2.2.2 ≤ n := by
  have hr := tk_rng (B := B) hn ha
  have hr2 := tk_rng (B := B) hn hr.2.2.1
  have hr3 := tk_rng (B := B) hn hr2.2.2.1
  have hr4 := tk_rng (B := B) hn hr3.2.2.1
  have t1 : a ≤ tf B n a ∧ tf B n a ≤ te B n a ∧ te B n a ≤ n := ⟨hr.1, hr.2.1, hr.2.2.1⟩
  have t2 : te B n a ≤ te B n (te B n a) ∧ te B n (te B n a) ≤ n := ⟨Nat.le_trans hr2.1 hr2.2.1, hr2.2.2.1⟩
  have t3 : te B n (te B n a) ≤ te B n (te B n (te B n a)) ∧ te B n (te B n (te B n a)) ≤ n := ⟨Nat.le_trans hr3.1 hr3.2.1, hr3.2.2.1⟩
  have t4 : te B n (te B n (te B n a)) ≤ te B n (te B n (te B n (te B n a))) ∧ te B n (te B n (te B n (te B n a))) ≤ n := ⟨Nat.le_trans hr4.1 hr4.2.1, hr4.2.2.1⟩
  have c1 : ¬ (tkn B n a).1 = 0 := fun c => by
    have e : lne B n s a = (1, tf B n a, s, a) := by unfold lne; rw [if_pos c]
    rw [e] at h; exact absurd (show (1 : Nat) = 0 from h) (by decide)
  have k2 : (tkn B n a).1 = 2 := Classical.byContradiction (fun c => by
    have e : lne B n s a = (2, tf B n a, s, a) := by unfold lne; rw [if_neg c1, if_pos c]
    rw [e] at h; exact absurd (show (2 : Nat) = 0 from h) (by decide))
  have p1 : tf B n a < te B n a := (hr.2.2.2.2.2.2 k2).1
  have fin : ∀ r : Pr, (okPs r.2.2.1 ∧ te B n a ≤ r.2.2.2 ∧ r.2.2.2 ≤ n) → okPs r.2.2.1 ∧ a < r.2.2.2 ∧ r.2.2.2 ≤ n := fun r hr => ⟨hr.1, by omega, hr.2.2⟩
  refine fin _ ?_
  clear fin
  have el := lne_at (s := s) c1 k2
  have h6 : nmF B (tf B n a) (te B n a) ≤ 6 := fnd_le _ _
  rcases (show nmF B (tf B n a) (te B n a) = 0 ∨ nmF B (tf B n a) (te B n a) = 1 ∨ nmF B (tf B n a) (te B n a) = 2 ∨ nmF B (tf B n a) (te B n a) = 3 ∨ nmF B (tf B n a) (te B n a) = 4 ∨ nmF B (tf B n a) (te B n a) = 5 ∨ nmF B (tf B n a) (te B n a) = 6 by omega) with hk | hk | hk | hk | hk | hk | hk
  · -- table
    rw [el.1 hk] at h ⊢
    unfold lnT at h ⊢
    split at h
    · exact absurd h (show ¬ (4 : Nat) = 0 by decide)
    · rename_i c3
      rw [if_neg c3]
      have i := thn_inv h
      rw [i.2.2]
      have hf := fNm_0 i.1
      have hl := (hr2.2.2.2.2.2.2 hf.1).2
      have i2 := i.2.1
      split at i2
      · rename_i c4
        rw [if_pos c4]
        have := lnS_ok hn t2.2 (s := (s.1, fun p => B (tf B n (te B n a) + p) - 97, 1, s.2.2.2.1, s.2.2.2.2)) ⟨hs.1, dst_ok (fun p hp => hl _ (by omega) (by omega)) c4⟩ i2
        exact ⟨this.1, by omega, this.2.2⟩
      · exact absurd i2 (show ¬ (3 : Nat) = 0 by decide)
  · -- word
    rw [el.2.1 hk] at h ⊢
    unfold lnW at h ⊢
    split at h
    · exact absurd h (show ¬ (5 : Nat) = 0 by decide)
    · rename_i c3
      rw [if_neg c3]
      have i := thn_inv h
      rw [i.2.2]
      have j := thn_inv i.2.1
      rw [j.2.2]
      have hf := fNm_0 i.1
      have hu := fNu_0 j.1
      have hl := (hr2.2.2.2.2.2.2 hf.1).2
      have := lnS_ok hn t3.2 (s := (adW B s.1 (tf B n (te B n a)) (te B n (te B n a)) (tv B n (te B n (te B n a))), s.2.1, s.2.2.1, s.2.2.2.1, s.2.2.2.2)) ⟨okP_adW hs.1 (by omega) hf.2.1 hf.2.2 hu.2 (fun k hk => hl _ (Nat.le_add_right _ _) (by omega)), hs.2⟩ j.2.1
      exact ⟨this.1, by omega, this.2.2⟩
  · -- short
    rw [el.2.2.1 hk] at h ⊢
    unfold lnH at h ⊢
    split at h
    · exact absurd h (show ¬ (5 : Nat) = 0 by decide)
    · rename_i c3
      rw [if_neg c3]
      have i := thn_inv h
      rw [i.2.2]
      have j := thn_inv i.2.1
      rw [j.2.2]
      have hf := fNm_0 i.1
      have hu := fNm_0 j.1
      have hl := (hr2.2.2.2.2.2.2 hf.1).2
      have hl2 := (hr3.2.2.2.2.2.2 hu.1).2
      have := lnS_ok hn t3.2 (s := (adS B s.1 (tf B n (te B n a)) (te B n (te B n a)) (tf B n (te B n (te B n a))) (te B n (te B n (te B n a))), s.2.1, s.2.2.1, s.2.2.2.1, s.2.2.2.2)) ⟨okP_adS hs.1 (by omega) hf.2.1 hf.2.2 hu.2.1 hu.2.2 (fun k hk => hl _ (Nat.le_add_right _ _) (by omega)) (fun k hk => hl2 _ (Nat.le_add_right _ _) (by omega)), hs.2⟩ j.2.1
      exact ⟨this.1, by omega, this.2.2⟩
  · -- slip
    rw [el.2.2.2.1 hk] at h ⊢
    unfold lnP at h ⊢
    split at h
    · exact absurd h (show ¬ (4 : Nat) = 0 by decide)
    · rename_i c3
      rw [if_neg c3]
      have i := thn_inv h
      rw [i.2.2]
      have j := thn_inv i.2.1
      rw [j.2.2]
      have hf := fNu_0 i.1
      have hu := fNu_0 j.1
      have := lnS_ok hn t3.2 (s := (sS (sS s.1 2 (tv B n (te B n a))) 3 (tv B n (te B n (te B n a))), s.2.1, s.2.2.1, 1, s.2.2.2.2)) ⟨okP_sS (okP_sS hs.1 (by omega) ⟨fun _ => hf.2.2, fun z => absurd z (by decide)⟩) (by omega) ⟨fun _ => hu.2.2, fun z => absurd z (by decide)⟩, hs.2⟩ j.2.1
      exact ⟨this.1, by omega, this.2.2⟩
  · -- time
    rw [el.2.2.2.2.1 hk] at h ⊢
    unfold lnM at h ⊢
    split at h
    · exact absurd h (show ¬ (4 : Nat) = 0 by decide)
    · rename_i c3
      rw [if_neg c3]
      have i := thn_inv h
      rw [i.2.2]
      have j := thn_inv i.2.1
      rw [j.2.2]
      have k := thn_inv j.2.1
      rw [k.2.2]
      have hf := fNu_0 i.1
      have hu := fNu_0 j.1
      have hw := fNu_0 k.1
      have := lnS_ok hn t4.2 (s := (sS (sS (sS s.1 4 (tv B n (te B n a))) 5 (tv B n (te B n (te B n a)))) 6 (tv B n (te B n (te B n (te B n a)))), s.2.1, s.2.2.1, s.2.2.2.1, 1)) ⟨okP_sS (okP_sS (okP_sS hs.1 (by omega) ⟨fun z => absurd z (by decide), fun _ => hf.2⟩) (by omega) ⟨fun z => absurd z (by decide), fun _ => hu.2⟩) (by omega) ⟨fun z => absurd z (by decide), fun _ => hw.2⟩, hs.2⟩ k.2.1
      exact ⟨this.1, by omega, this.2.2⟩
  · -- guard
    rw [el.2.2.2.2.2.1 hk] at h ⊢
    unfold lnG at h ⊢
    split at h
    · exact absurd h (show ¬ (5 : Nat) = 0 by decide)
    · rename_i c3
      rw [if_neg c3]
      have i := thn_inv h
      rw [i.2.2]
      have j := thn_inv i.2.1
      rw [j.2.2]
      have hf := fNu_0 i.1
      have hu := fNu_0 j.1
      have := lnS_ok hn t3.2 (s := (adG s.1 (tv B n (te B n a)) (tv B n (te B n (te B n a))), s.2.1, s.2.2.1, s.2.2.2.1, s.2.2.2.2)) ⟨okP_adG hs.1 (by omega) (by omega) hu.2, hs.2⟩ j.2.1
      exact ⟨this.1, by omega, this.2.2⟩
  · rw [el.2.2.2.2.2.2 hk] at h; exact absurd h (show ¬ (2 : Nat) = 0 by decide)
end
