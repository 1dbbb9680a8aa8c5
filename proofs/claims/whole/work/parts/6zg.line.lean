/-! the class's lines: words and shorts -/
theorem orN_cong {f g : Nat → Nat} : ∀ n, (∀ i, i < n → f i = g i) → orN f n = orN g n
  | 0, _ => rfl
  | n + 1, h => by
    have ih := orN_cong n (fun i hi => h i (by omega))
    have e := h n (by omega)
    unfold orN
    rw [ih, e]
theorem XN_cong {W nL nC n : Nat} {len len' : Nat → Nat} {ch ch' : Nat → Nat → Nat} {width size : Int32} {lens lets : Nat → Int32} (h : XN W nL nC n len ch width size lens lets) (hl : ∀ w, w < n → len' w = len w) (hc : ∀ w, w < n → ∀ k, k < W → ch' w k = ch w k) : XN W nL nC n len' ch' width size lens lets := by
  obtain ⟨g1, g2, g3, g4, g5, g6, g7, g8⟩ := h
  refine ⟨g1, g2, g3, g4, g5, g6, g7, fun w hw => ?_⟩
  have b := g8 w hw
  rw [hl w hw]
  exact ⟨b.1, b.2.1, fun k hk => by rw [hc w hw k (by omega)]; exact b.2.2 k hk⟩
theorem XMs_cong {W n : Nat} {len len' : Nat → Nat} {ch ch' : Nat → Nat → Nat} {ms : Nat → Int32} (h : XMs n len ch ms) (hW : ∀ w, w < n → len w ≤ W) (hl : ∀ w, w < n → len' w = len w) (hc : ∀ w, w < n → ∀ k, k < W → ch' w k = ch w k) : XMs n len' ch' ms := fun w hw => by
  rw [h w hw, hl w hw, orN_cong (f := fun k => 2 ^ ch w k) (g := fun k => 2 ^ ch' w k) (len w) (fun k hk => by rw [hc w hw k (by have := hW w hw; omega)])]
section
variable {B : Nat → Nat} {d : PD} {f e f' e' v : Nat}
theorem adW_0 (k : Nat) : adW B d f e v 0 k = if k = 0 then nw d + 1 else d 0 k := by
  unfold adW sS sE sR; by_cases h : k = 0 <;> simp [h]
theorem adW_1 (w : Nat) : adW B d f e v 1 w = if w = nw d then e - f else d 1 w := by
  unfold adW sS sE sR; by_cases h : w = nw d <;> simp [h]
theorem adW_2 (w : Nat) : adW B d f e v 2 w = if w = nw d then v else d 2 w := by
  unfold adW sS sE sR; by_cases h : w = nw d <;> simp [h]
theorem adW_3 (j : Nat) : adW B d f e v 3 j = if 8 * nw d ≤ j ∧ j < 8 * nw d + 8 then B (f + (j - 8 * nw d)) - 97 else d 3 j := by
  unfold adW sS sE sR; by_cases h : 8 * nw d ≤ j ∧ j < 8 * nw d + 8 <;> simp [h]
theorem adW_o {i : Nat} (hi : 4 ≤ i) (j : Nat) : adW B d f e v i j = d i j := by
  unfold adW sS sE sR
  rw [if_neg (by omega), if_neg (by omega), if_neg (by omega), if_neg (by omega)]
theorem adS_0 (k : Nat) : adS B d f e f' e' 0 k = if k = 1 then nsh d + 1 else d 0 k := by
  unfold adS sS sE sR; by_cases h : k = 1 <;> simp [h]
theorem adS_4 (w : Nat) : adS B d f e f' e' 4 w = if w = nsh d then e - f else d 4 w := by
  unfold adS sS sE sR; by_cases h : w = nsh d <;> simp [h]
theorem adS_6 (w : Nat) : adS B d f e f' e' 6 w = if w = nsh d then e' - f' else d 6 w := by
  unfold adS sS sE sR; by_cases h : w = nsh d <;> simp [h]
theorem adS_5 (j : Nat) : adS B d f e f' e' 5 j = if 3 * nsh d ≤ j ∧ j < 3 * nsh d + 3 then B (f + (j - 3 * nsh d)) - 97 else d 5 j := by
  unfold adS sS sE sR; by_cases h : 3 * nsh d ≤ j ∧ j < 3 * nsh d + 3 <;> simp [h]
theorem adS_7 (j : Nat) : adS B d f e f' e' 7 j = if 8 * nsh d ≤ j ∧ j < 8 * nsh d + 8 then B (f' + (j - 8 * nsh d)) - 97 else d 7 j := by
  unfold adS sS sE sR; by_cases h : 8 * nsh d ≤ j ∧ j < 8 * nsh d + 8 <;> simp [h]
theorem adS_o {i : Nat} (hi : 1 ≤ i) (h4 : i ≠ 4) (h5 : i ≠ 5) (h6 : i ≠ 6) (h7 : i ≠ 7) (j : Nat) : adS B d f e f' e' i j = d i j := by
  unfold adS sS sE sR
  rw [if_neg (by omega), if_neg (by omega), if_neg (by omega), if_neg (by omega), if_neg (by omega)]
theorem adG_0 {x y : Nat} (k : Nat) : adG d x y 0 k = if k = 7 then ngd d + 1 else d 0 k := by
  unfold adG sS sE; by_cases h : k = 7 <;> simp [h]
theorem adG_8 {x y : Nat} (g : Nat) : adG d x y 8 g = if g = ngd d then x else d 8 g := by
  unfold adG sS sE; by_cases h : g = ngd d <;> simp [h]
theorem adG_9 {x y : Nat} (g : Nat) : adG d x y 9 g = if g = ngd d then y else d 9 g := by
  unfold adG sS sE; by_cases h : g = ngd d <;> simp [h]
theorem adG_o {x y i : Nat} (hi : 1 ≤ i) (h8 : i ≠ 8) (h9 : i ≠ 9) (j : Nat) : adG d x y i j = d i j := by
  unfold adG sS sE
  rw [if_neg (by omega), if_neg (by omega), if_neg (by omega)]
theorem adW_wc (w k : Nat) (hw : w ≤ nw d) (hk : k < 8) : wc (adW B d f e v) w k = if w = nw d then B (f + k) - 97 else wc d w k := by
  show adW B d f e v 3 (8 * w + k) = _
  rw [adW_3]
  by_cases h : w = nw d
  · subst h; rw [if_pos (by omega), if_pos rfl, show 8 * nw d + k - 8 * nw d = k by omega]
  · rw [if_neg (by omega), if_neg h]
theorem adS_sc (w k : Nat) (hw : w ≤ nsh d) (hk : k < 3) : sc (adS B d f e f' e') w k = if w = nsh d then B (f + k) - 97 else sc d w k := by
  show adS B d f e f' e' 5 (3 * w + k) = _
  rw [adS_5]
  by_cases h : w = nsh d
  · subst h; rw [if_pos (by omega), if_pos rfl, show 3 * nsh d + k - 3 * nsh d = k by omega]
  · rw [if_neg (by omega), if_neg h]
theorem adS_lc (w k : Nat) (hw : w ≤ nsh d) (hk : k < 8) : lc (adS B d f e f' e') w k = if w = nsh d then B (f' + k) - 97 else lc d w k := by
  show adS B d f e f' e' 7 (8 * w + k) = _
  rw [adS_7]
  by_cases h : w = nsh d
  · subst h; rw [if_pos (by omega), if_pos rfl, show 8 * nsh d + k - 8 * nsh d = k by omega]
  · rw [if_neg (by omega), if_neg h]
end
section
variable {B : Nat → Nat} {n a a0 : Nat} {s : Ps} {bytes : Nat → Int32} {kd wh to va : Int32}
theorem thn_0 {F : Nat} {r : Pr} (h : F = 0) : thn B n s F a r = r := if_pos h
theorem thn_n {F : Nat} {r : Pr} (h : ¬ F = 0) : thn B n s F a r = (F, tf B n a, s, a) := if_neg h
theorem cl_nm (hn : n ≤ 320) (hB : ∀ k, k < n → B k < 256 ∧ bytes k = sx (B k)) (ha : a ≤ n) {lo hi : Nat} (hlo : lo < 1000) (hhi : hi < 1000) {fr : Int32} {post : Int32 → Int32 → Int32 → Int32 → Int32 → Int32 → Int32 → Prop} (h0 : ¬ fNm B n lo hi a = 0 → ∀ to' va', post 0 (nI (fNm B n lo hi a)) (nI (tf B n a)) (nI (te B n a)) to' (nI (tf B n a)) va') (h1 : fNm B n lo hi a = 0 → ∀ to' va', post 1 kd wh (nI (te B n a)) to' (nI (tf B n a)) va') : wp_X6_takeName kd wh (nI n) (nI a) to fr va bytes (nI lo) (nI hi) post := sp_X6_takeName hn hB ha hlo hhi h0 h1
theorem cl_nu (hn : n ≤ 320) (hB : ∀ k, k < n → B k < 256 ∧ bytes k = sx (B k)) (ha : a ≤ n) {lo hi : Nat} (hlo : lo < 1000) (hhi : hi < 1000) {fr : Int32} {post : Int32 → Int32 → Int32 → Int32 → Int32 → Int32 → Int32 → Prop} (h0 : ¬ fNu B n lo hi a = 0 → ∀ to' va', post 0 (nI (fNu B n lo hi a)) (nI (tf B n a)) (nI (te B n a)) to' (nI (tf B n a)) va') (h1 : fNu B n lo hi a = 0 → ∀ to', post 1 kd wh (nI (te B n a)) to' (nI (tf B n a)) (nI (tv B n a))) : wp_X6_takeNumber kd wh (nI n) (nI a) to fr va bytes (nI lo) (nI hi) post := sp_X6_takeNumber hn hB ha hlo hhi h0 h1
theorem tk_rng (hn : n ≤ 320) (ha : a ≤ n) : a ≤ tf B n a ∧ tf B n a ≤ te B n a ∧ te B n a ≤ n ∧ (tkn B n a).1 ≤ 4 ∧ tv B n a < 1000 ∧ ((tkn B n a).1 ≠ 1 → tf B n a < n) ∧ ((tkn B n a).1 = 2 → tf B n a < te B n a ∧ ∀ k, tf B n a ≤ k → k < te B n a → isLt (B k) = true) := tkn_rng hn ha
theorem fNm_0 {lo hi : Nat} (h : fNm B n lo hi a = 0) : (tkn B n a).1 = 2 ∧ lo ≤ te B n a - tf B n a ∧ te B n a - tf B n a ≤ hi := by
  unfold te tf
  unfold fNm at h; split at h
  · omega
  · split at h
    · omega
    · split at h
      · rename_i h1 h2 h3; exact ⟨Classical.byContradiction h2, h3⟩
      · omega
theorem fNu_0 {lo hi : Nat} (h : fNu B n lo hi a = 0) : (tkn B n a).1 = 3 ∧ lo ≤ tv B n a ∧ tv B n a ≤ hi := by
  unfold tv
  unfold fNu at h; split at h
  · omega
  · split at h
    · omega
    · split at h
      · rename_i h1 h2 h3; exact ⟨Classical.byContradiction h2, h3⟩
      · omega
theorem fNm_9 {lo hi : Nat} : fNm B n lo hi a ≤ 3 := by unfold fNm; (repeat' split) <;> omega
theorem fNu_9 {lo hi : Nat} : fNu B n lo hi a ≤ 3 := by unfold fNu; (repeat' split) <;> omega
theorem fSi_9 : fSi B n a ≤ 3 := by unfold fSi; (repeat' split) <;> omega
/-- what is behind a sign -/
theorem cl_S (hn : n ≤ 320) (hB : ∀ k, k < n → B k < 256 ∧ bytes k = sx (B k)) (ha : a ≤ n) {fr : Int32} {post : Int32 → Int32 → Int32 → Int32 → Int32 → Int32 → Int32 → Prop} (h0 : ¬ fSi B n a = 0 → lnS B n s a = (fSi B n a, tf B n a, s, a) → ∀ at' to' fr' va', post 0 (nI (fSi B n a)) (nI (tf B n a)) at' to' fr' va') (h1 : lnS B n s a = (0, 0, s, te B n a) → ∀ to' fr' va', post 1 kd wh (nI (te B n a)) to' fr' va') : wp_X6_takeSign kd wh (nI n) (nI a) to fr va bytes post := by
  refine sp_X6_takeSign hn hB ha (fun z _ _ => h0 z (by unfold lnS; rw [thn_n z]) _ _ _ _) (fun z _ _ => h1 (by unfold lnS; rw [thn_0 z]) _ _ _)
theorem cl_W (hn : n ≤ 320) (hB : ∀ k, k < n → B k < 256 ∧ bytes k = sx (B k)) (ha : a ≤ n) {size : Int32} {lens ms lets wts : Nat → Int32} (hX : XW s.1 8 size lens lets wts) (hm : XMs (nw s.1) (wl s.1) (wc s.1) ms) {post : Int32 → Int32 → Int32 → Int32 → Int32 → Int32 → Int32 → Int32 → (Nat → Int32) → (Nat → Int32) → (Nat → Int32) → (Nat → Int32) → Prop}
    (h0 : ¬ (lnW B n s a0 a).1 = 0 → ∀ at' to' fr' va' size' lens' ms' lets' wts', post 0 (nI (lnW B n s a0 a).1) (nI (lnW B n s a0 a).2.1) at' to' fr' va' size' lens' ms' lets' wts')
    (h1 : ∀ f e v b, lnW B n s a0 a = (0, 0, (adW B s.1 f e v, s.2.1, s.2.2.1, s.2.2.2.1, s.2.2.2.2), b) → ∀ to' fr' va' size' lens' ms' lets' wts', XW (adW B s.1 f e v) 8 size' lens' lets' wts' → XMs (nw (adW B s.1 f e v)) (wl (adW B s.1 f e v)) (wc (adW B s.1 f e v)) ms' → post 1 kd wh (nI b) to' fr' va' size' lens' ms' lets' wts') :
    wp_X6_takeWordLine 10 10 80 kd wh (nI n) (nI a) to (nI (tf B n a0)) va 10 8 size bytes lens ms lets wts post := by
  have hr := tk_rng (B := B) hn ha
  have hr2 := tk_rng (B := B) hn hr.2.2.1
  obtain ⟨hN, hwt⟩ := hX
  have hsz := hN.2.1
  have h10 := hN.2.2.1
  subst hsz
  unfold wp_X6_takeWordLine wp_X6_fail
  rw [i10, nI_ltI (by omega) (by omega)]
  refine ⟨fun q => cl_nm (lo := 1) (hi := 8) hn hB ha (by omega) (by omega) (fun z _ _ => ⟨fun y => absurd rfl y, fun _ => ?_⟩) (fun z to1 va1 => ⟨fun _ => ?_, fun y => absurd y (by decide)⟩), fun q => ⟨Or.inl rfl, ?_⟩⟩
  · have e : lnW B n s a0 a = (fNm B n 1 8 a, tf B n a, s, a) := by unfold lnW; rw [if_neg (by omega), thn_n z]
    rw [e] at h0; exact h0 z _ _ _ _ _ _ _ _ _
  · have hf := fNm_0 z
    have hl := (hr.2.2.2.2.2.2 hf.1).2
    refine sp_X4_add (len' := wl (adW B s.1 (tf B n a) (te B n a) (tv B n (te B n a)))) (ch' := fun w k => if w = nw s.1 then B (tf B n a + k) - 97 else wc s.1 w k) hn hB hN hm rfl q (by omega) hr.2.1 hr.2.2.1 hf.2.2 hl (fun w hw => ⟨?_, fun k => if_neg (by omega)⟩) ?_ (fun k _ => if_pos rfl) (fun size' lens' ms' lets' hN' hm' => ?_)
    · show adW _ _ _ _ _ 1 w = _; rw [adW_1, if_neg (by omega)]
    · show adW _ _ _ _ _ 1 _ = _; rw [adW_1, if_pos rfl]
    · refine cl_nu (lo := 1) (hi := 99) hn hB hr.2.2.1 (by omega) (by omega) (fun y _ _ => ⟨fun t => absurd rfl t, fun _ => ?_⟩) (fun y to2 => ⟨fun _ => ⟨(vin_n (by omega)).mpr q, ?_⟩, fun t => absurd t (by decide)⟩)
      · have e : lnW B n s a0 a = (fNu B n 1 99 (te B n a), tf B n (te B n a), s, te B n a) := by unfold lnW; rw [if_neg (by omega), thn_0 z, thn_n y]
        rw [e] at h0; exact h0 y _ _ _ _ _ _ _ _ _
      · have hu := fNu_0 y
        have e : lnW B n s a0 a = lnS B n (adW B s.1 (tf B n a) (te B n a) (tv B n (te B n a)), s.2.1, s.2.2.1, s.2.2.2.1, s.2.2.2.2) (te B n (te B n a)) := by unfold lnW; rw [if_neg (by omega), thn_0 z, thn_0 y]
        have e0 : nw (adW B s.1 (tf B n a) (te B n a) (tv B n (te B n a))) = nw s.1 + 1 := by show adW _ _ _ _ _ 0 0 = _; rw [adW_0, if_pos rfl]
        refine cl_S (s := (adW B s.1 (tf B n a) (te B n a) (tv B n (te B n a)), s.2.1, s.2.2.1, s.2.2.2.1, s.2.2.2.2)) hn hB hr2.2.2.1 (fun w ew at' to' fr' va' => ⟨Or.inl rfl, ?_⟩) (fun ew to' fr' va' => ⟨Or.inr rfl, ?_⟩)
        · rw [e, ew] at h0; exact h0 w _ _ _ _ _ _ _ _ _
        · refine h1 _ _ _ _ (e.trans ew) _ _ _ _ _ _ _ _ ⟨?_, fun w hw => ?_⟩ ?_
          · rw [e0]
            exact XN_cong hN' (fun w hw => rfl) (fun w hw k hk => adW_wc w k (by omega) hk)
          · rw [e0] at hw
            show upd wts (nI (nw s.1)).toNatClampNeg _ w = nI (adW _ _ _ _ _ 2 w)
            rw [adW_2, nI_clamp (by omega)]
            by_cases c : w = nw s.1
            · subst c; rw [pk_us, if_pos rfl]
            · rw [pk_un c, if_neg c]; exact hwt w (by omega)
          · rw [e0]
            exact XMs_cong (W := 8) hm' (fun w hw => (hN'.2.2.2.2.2.2.2 w hw).1) (fun w hw => rfl) (fun w hw k hk => adW_wc w k (by omega) hk)
  · have e : lnW B n s a0 a = (5, tf B n a0, s, a) := by unfold lnW; rw [if_pos (by omega)]
    rw [e] at h0; exact h0 (Nat.succ_ne_zero _) _ _ _ _ _ _ _ _ _
end
