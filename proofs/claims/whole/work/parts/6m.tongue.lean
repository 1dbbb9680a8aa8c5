/-! the tongue -/
def tgk (d : PD) (w : Nat) (f : Nat → Nat) : Nat → Nat → Nat
  | 0 => f
  | k + 1 => fun l => tgk d w f k l + (if l = wc d w k then ww d w else 0)
def tgw (d : PD) : Nat → Nat → Nat
  | 0 => fun _ => 0
  | w + 1 => tgk d w (tgw d w) (wl d w)
theorem tgk_le {d : PD} {w l b : Nat} {f : Nat → Nat} (hw : ww d w ≤ 99) (h : f l ≤ b) : ∀ k, tgk d w f k l ≤ b + 99 * k
  | 0 => h
  | k + 1 => by have := tgk_le hw h k; unfold tgk; split <;> omega
theorem tgw_le {d : PD} (hd : okP d) (l : Nat) : ∀ w, w ≤ nw d → tgw d w l ≤ 792 * w
  | 0, _ => Nat.le_refl 0
  | w + 1, h => by
    have h8 := hd.2.2.2.2.2.2.1 w (by omega)
    have := tgk_le (l := l) h8.2.2.2.1 (tgw_le hd l w (by omega)) (wl d w)
    unfold tgw; omega
def ofn (d : PD) (l : Nat) : Nat := tgw d (nw d) l
theorem ofn_le {d : PD} (hd : okP d) (l : Nat) : ofn d l ≤ 7920 := by have := tgw_le hd l (nw d) (Nat.le_refl _); have := hd.1; unfold ofn; omega
def prc (f : Nat → Nat) (a b : Nat) : Prop := f b < f a ∨ (f a = f b ∧ a < b)
theorem nar_b {n : Nat} (h : n < 128) : vp_nar .byte (nI n) = nI n := by rw [vp_nar_byte]; exact sx_small _ h
section
variable {d : PD} {T : Nat → Nat} {width size : Int32} {lens lets wts pl of id so : Nat → Int32}
theorem sp_X10_addTo {l : Nat} {x : Int32} (hl : l < 26) {post : (Nat → Int32) → Prop} (h : post (upd of l (of l + x))) : wp_X10_addTo of (nI (97 + l)) x post := by
  have e : nI (97 + l) - 97 = nI l := by rw [i97, pk_sub (by omega)]; congr 1; omega
  have v : vp_in (nI (97 + l) - 97) 26 := by rw [e]; exact (vin_n (by omega)).mpr hl
  unfold wp_X10_addTo
  refine sp_X9_isLetter (fun q => absurd v q) (fun _ => ⟨fun q => absurd q (by decide), fun _ => ⟨v, v, ?_⟩⟩)
  rw [e, nI_clamp (by omega)]; exact h
theorem sp_X10_oftenOf {l : Nat} (hl : l < 26) {post : Int32 → Prop} (h : post (of l)) : wp_X10_oftenOf of (nI (97 + l)) post := by
  have e : nI (97 + l) - 97 = nI l := by rw [i97, pk_sub (by omega)]; congr 1; omega
  have v : vp_in (nI (97 + l) - 97) 26 := by rw [e]; exact (vin_n (by omega)).mpr hl
  unfold wp_X10_oftenOf
  refine sp_X9_isLetter (fun q => absurd v q) (fun _ => ⟨fun q => absurd q (by decide), fun _ => ⟨v, ?_⟩⟩)
  rw [e, nI_clamp (by omega)]; exact h
/-- put in at i -/
def ins (S : Nat → Nat) (l i : Nat) (j : Nat) : Nat := if j < i then S j else if j = i then l else S (j - 1)
theorem sp_X10_sortIn {f S : Nat → Nat} {l n : Nat} (hof : ∀ l, l < 26 → of l = nI (f l)) (hf : ∀ l, f l ≤ 7920) (hn : n < 25) (hl : l < 26) (hS : ∀ i, i < n → S i < 26) (hso : ∀ i, i < n → so i = nI (97 + S i)) {post : (Nat → Int32) → Prop} (h : ∀ so' i, i ≤ n → (∀ j, j < n + 1 → so' j = nI (97 + ins S l i j)) → (∀ j, i ≤ j → j < n → f (S j) < f l) → (0 < i → f l ≤ f (S (i - 1))) → post so') : wp_X10_sortIn so of (nI (97 + l)) (nI n) post := by
  unfold wp_X10_sortIn
  refine fix_iv (fun k v => v.1 = nI (n - k) ∧ (∀ j, j < n - k → v.2 j = nI (97 + S j)) ∧ (∀ j, n - k ≤ j → j < n → v.2 (j + 1) = nI (97 + S j)) ∧ ∀ j, n - k ≤ j → j < n → f (S j) < f l) n (fun K k v hk hI hK => ?_) 0 (by omega) ⟨rfl, fun j hj => hso j (by omega), fun j h1 h2 => absurd h2 (by omega), fun j h1 h2 => absurd h2 (by omega)⟩
  obtain ⟨x3, s1⟩ := v
  obtain ⟨e1, e2, e3, e4⟩ := hI
  dsimp only at e1 e2 e3
  obtain ⟨i, hi⟩ : ∃ i, i = n - k := ⟨_, rfl⟩
  rw [← hi] at e1 e2 e3 e4
  subst e1
  have fin : (0 < i → f l ≤ f (S (i - 1))) → post (upd s1 i (nI (97 + l))) := fun h0 => by
    refine h _ i (by omega) (fun j hj => ?_) e4 h0
    unfold ins
    split
    · rw [pk_un (by omega)]; exact e2 j (by assumption)
    · split
      · rename_i q1 q2; subst q2; rw [pk_us]
      · rename_i q1 q2
        rw [pk_un q2]
        have := e3 (j - 1) (by omega) (by omega)
        rw [show j - 1 + 1 = j by omega] at this; exact this
  unfold F_X10_sortIn_2
  dsimp only
  rw [nar_b (show 97 + l < 128 by omega), nI_clamp (by omega), i0, nI_leI (by omega) (by omega)]
  have vi : vp_in (nI i) 25 := (vin_n (by omega)).mpr (by omega)
  refine ⟨fun q => ⟨vi, fin (fun q0 => absurd q0 (by omega))⟩, fun q => ?_⟩
  have ei : nI i - 1 = nI (i - 1) := by rw [i1, pk_sub (by omega)]
  have vi1 : vp_in (nI i - 1) 25 := by rw [ei]; exact (vin_n (by omega)).mpr (by omega)
  refine ⟨vi1, ?_⟩
  rw [ei, nI_clamp (by omega), e2 (i - 1) (by omega)]
  have hS1 := hS (i - 1) (by omega)
  have b1 := hf l
  have b2 := hf (S (i - 1))
  refine sp_X10_oftenOf hS1 (sp_X10_oftenOf hl ?_)
  rw [hof _ hS1, hof _ hl, nI_leI (by omega) (by omega), nar_b (by omega), show nI i + (-1) = nI (i - 1) by rw [← ei]; grind]
  refine ⟨fun z => ⟨vi, fin (fun _ => z)⟩, fun z => ⟨by rw [← ei]; exact vi1, vi, hK (by omega) _ ⟨?_, fun j hj => ?_, fun j h1 h2 => ?_, fun j h1 h2 => ?_⟩⟩⟩
  · show nI (i - 1) = _; congr 1; omega
  · show upd s1 i _ j = _; rw [pk_un (by omega)]; exact e2 j (by omega)
  · show upd s1 i _ (j + 1) = _
    rcases Nat.lt_or_ge j i with z1 | z1
    · have : i = j + 1 := by omega
      subst this; rw [pk_us]; rfl
    · rw [pk_un (by omega)]; exact e3 j (by omega) h2
  · rcases Nat.lt_or_ge j i with z1 | z1
    · rw [show j = i - 1 by omega]; omega
    · exact e4 j (by omega) h2
end
/-! how many letters stand in the table -/
theorem sumN_add {f g : Nat → Nat} : ∀ n, sumN (fun i => f i + g i) n = sumN f n + sumN g n
  | 0 => rfl
  | n + 1 => by rw [sumN, sumN, sumN, sumN_add n]; omega
theorem sumN_d {a : Nat} : ∀ n, sumN (fun l => if a = l then 1 else 0) n = if a < n then 1 else 0
  | 0 => by rw [if_neg (by omega)]; rfl
  | n + 1 => by rw [sumN, sumN_d n]; split <;> split <;> split <;> omega
theorem ind_sum (T : Nat → Nat) (l : Nat) (hT : ∀ p q, p < 25 → q < 25 → T p = T q → p = q) : ∀ m, m ≤ 25 → sumN (fun p => if T p = l then 1 else 0) m = if fnd (fun p => T p == l) m < m then 1 else 0
  | 0, _ => rfl
  | m + 1, h => by
    have ih := ind_sum T l hT m (by omega)
    have a := fnd_le (fun p => T p == l) m
    have b := fnd_yes (fun p => T p == l) m
    rw [sumN, ih]
    by_cases q : fnd (fun p => T p == l) m < m
    · have e := b q
      have e : T (fnd (fun p => T p == l) m) = l := by simpa using e
      have ne : ¬ T m = l := fun z => by have := hT _ _ (show fnd (fun p => T p == l) m < 25 by omega) (show m < 25 by omega) (e.trans z.symm); omega
      have e2 : fnd (fun p => T p == l) (m + 1) = fnd (fun p => T p == l) m := by show (if _ then _ else _) = _; rw [if_pos q]
      rw [e2, if_pos q, if_neg ne, if_pos (by omega)]
    · rw [if_neg q]
      by_cases z : T m = l
      · have e2 : fnd (fun p => T p == l) (m + 1) = m := by show (if _ then _ else _) = _; rw [if_neg q, if_pos (by simp [z])]
        rw [e2, if_pos z, if_pos (by omega)]
      · have e2 : fnd (fun p => T p == l) (m + 1) = m + 1 := by show (if _ then _ else _) = _; rw [if_neg q, if_neg (by simp [z])]
        rw [e2, if_neg z, if_neg (by omega)]
theorem sumN_swap (g : Nat → Nat → Nat) (m : Nat) : ∀ n, sumN (fun l => sumN (fun p => g p l) m) n = sumN (fun p => sumN (fun l => g p l) n) m
  | 0 => (sumN_0 m (fun _ _ => rfl)).symm
  | n + 1 => by
    have e : (fun p => sumN (fun l => g p l) (n + 1)) = fun p => sumN (fun l => g p l) n + g p n := rfl
    rw [sumN, sumN_swap g m n, e, sumN_add]
def inT (T : Nat → Nat) (l : Nat) : Nat := if pidx T l < 25 then 1 else 0
theorem inT_25 {T : Nat → Nat} (hT : okT T) : sumN (inT T) 26 = 25 := by
  have e : sumN (inT T) 26 = sumN (fun l => sumN (fun p => if T p = l then 1 else 0) 25) 26 := sumN_cong _ (fun l _ => (ind_sum T l hT.2 25 (by omega)).symm)
  rw [e, sumN_swap]
  have e2 : sumN (fun p => sumN (fun l => if T p = l then 1 else 0) 26) 25 = sumN (fun _ => 1) 25 := sumN_cong _ (fun p hp => by rw [sumN_d, if_pos (hT.1 p hp)])
  rw [e2]; rfl
theorem inT_le (T : Nat → Nat) : ∀ n m, n ≤ m → sumN (inT T) n ≤ sumN (inT T) m := by
  intro n m h
  induction m with
  | zero => rw [show n = 0 by omega]; exact Nat.le_refl _
  | succ m ih =>
    rcases Nat.lt_or_ge n (m + 1) with z | z
    · rw [sumN]; have := ih (by omega); omega
    · rw [show n = m + 1 by omega]; exact Nat.le_refl _
/-- in order -/
def okS (f : Nat → Nat) (T S : Nat → Nat) (n L : Nat) : Prop := (∀ i, i < n → S i < L ∧ pidx T (S i) < 25) ∧ (∀ a b, a < b → b < n → prc f (S a) (S b)) ∧ ∀ l, l < L → pidx T l < 25 → ∃ i, i < n ∧ S i = l
theorem okS_ins {f T S : Nat → Nat} {n l i : Nat} (h : okS f T S n l) (hl : pidx T l < 25) (hi : i ≤ n) (h1 : ∀ j, i ≤ j → j < n → f (S j) < f l) (h2 : 0 < i → f l ≤ f (S (i - 1))) : okS f T (ins S l i) (n + 1) (l + 1) := by
  obtain ⟨a1, a2, a3⟩ := h
  have lo : ∀ j, j < i → f l ≤ f (S j) := fun j hj => by
    rcases Nat.lt_or_ge j (i - 1) with z | z
    · have := a2 j (i - 1) z (by omega); have := h2 (by omega); unfold prc at *; omega
    · rw [show j = i - 1 by omega]; exact h2 (by omega)
  refine ⟨fun j hj => ?_, fun a b hab hb => ?_, fun l' hl' hp => ?_⟩
  · unfold ins; split
    · have := a1 j (by omega); exact ⟨by omega, this.2⟩
    · split
      · exact ⟨by omega, hl⟩
      · have := a1 (j - 1) (by omega); exact ⟨by omega, this.2⟩
  · unfold ins
    by_cases q1 : b < i
    · rw [if_pos (by omega), if_pos q1]; exact a2 a b hab (by omega)
    · rw [if_neg q1]
      by_cases q2 : b = i
      · rw [if_pos (show a < i by omega), if_pos q2]
        have := lo a (by omega); have := (a1 a (by omega)).1; unfold prc; omega
      · rw [if_neg q2]
        by_cases q3 : a < i
        · rw [if_pos q3]; exact a2 a (b - 1) (by omega) (by omega)
        · rw [if_neg q3]
          by_cases q4 : a = i
          · rw [if_pos q4]; left; exact h1 (b - 1) (by omega) (by omega)
          · rw [if_neg q4]; exact a2 (a - 1) (b - 1) (by omega) (by omega)
  · rcases Nat.lt_or_ge l' l with z | z
    · obtain ⟨j, hj, e⟩ := a3 l' z hp
      by_cases q : j < i
      · exact ⟨j, by omega, by unfold ins; rw [if_pos q]; exact e⟩
      · exact ⟨j + 1, by omega, by unfold ins; rw [if_neg (by omega), if_neg (by omega)]; exact e⟩
    · exact ⟨i, by omega, by unfold ins; rw [if_neg (by omega), if_pos rfl]; omega⟩
def chl : List Nat := [0, 1, 5, 2, 6, 10, 3, 7, 11, 15, 4, 8, 12, 16, 20, 9, 13, 17, 21, 14, 18, 22, 19, 23, 24]
def chp (i : Nat) : Nat := chl.getD i 0
def chq (p : Nat) : Nat := chl.idxOf p
theorem chp_q : ∀ p, p < 25 → chp (chq p) = p ∧ chq p < 25 := by decide
theorem chq_p : ∀ i, i < 25 → chq (chp i) = i ∧ chp i < 25 := by decide
theorem chp_I : ∀ i, i < 25 → cheapL.getD i 0 = nI (chp i) := by decide
section
variable {d : PD} {T : Nat → Nat} {width size : Int32} {lens lets wts pl of id so : Nat → Int32}
theorem sp_X10_learn (hd : okP d) (hX : XW d width size lens lets wts) (hT : okT T) (hp : ∀ l, l < 26 → pl l = plX T l) {post : (Nat → Int32) → (Nat → Int32) → (Nat → Int32) → Prop} (h : ∀ of' id' so' S, okS (ofn d) T S 25 26 → (∀ l, l < 26 → of' l = nI (ofn d l)) → (∀ p, p < 25 → id' p = nI (97 + S (chq p))) → post of' id' so') : wp_X10_learn 10 80 of width size id so pl lens lets wts post := by
  have h10 := hd.1
  unfold wp_X10_learn
  refine sp_fill (by decide) (fun p' h1 _ => ?_)
  refine fix_iv (fun w v => v.1 = nI w ∧ ∀ l, l < 26 → v.2 l = nI (tgw d w l)) (nw d) (fun K w v hw hI hK => ?_) 0 (by omega) ⟨rfl, h1⟩
  obtain ⟨x3, o1⟩ := v
  obtain ⟨e1, e2⟩ := hI
  dsimp only at e1 e2
  subst e1
  unfold F_X10_learn_10
  dsimp only
  rw [show (size ≤ nI w) = (nI (nw d) ≤ nI w) by rw [hX.1.2.1], nI_leI (by omega) (by omega)]
  refine ⟨fun c => ?_, fun c => ?_⟩
  · have : w = nw d := by omega
    subst this
    have e2 : ∀ l, l < 26 → o1 l = nI (ofn d l) := e2
    have h25 := inT_25 hT
    refine fix_iv (fun l v => v.1 = nI (sumN (inT T) l) ∧ v.2.1 = nI (97 + l) ∧ ∃ S, okS (ofn d) T S (sumN (inT T) l) l ∧ ∀ i, i < sumN (inT T) l → v.2.2 i = nI (97 + S i)) 26 (fun K' l v hl hI hK' => ?_) 0 (by omega) ⟨rfl, rfl, fun _ => 0, ⟨fun i hi => absurd hi (Nat.not_lt_zero i), fun a b _ hb => absurd hb (Nat.not_lt_zero b), fun l hl => absurd hl (Nat.not_lt_zero l)⟩, fun i hi => absurd hi (Nat.not_lt_zero i)⟩
    obtain ⟨x3, x4, s1⟩ := v
    obtain ⟨f1, f2, S, f3, f4⟩ := hI
    dsimp only at f1 f2 f4
    subst f1; subst f2
    unfold F_X10_learn_75
    dsimp only
    have hle := inT_le T l 26 hl
    rw [show (122 : Int32) = nI 122 from rfl, nI_ltI (by omega) (by omega)]
    refine ⟨fun q => ?_, fun q => ?_⟩
    · have : l = 26 := by omega
      subst this
      rw [h25] at f3 f4
      refine fix_iv (fun i v => v.1 = nI i ∧ ∀ p, p < 25 → chq p < i → v.2 p = nI (97 + S (chq p))) 25 (fun K2 i v hi hI hK2 => ?_) 0 (by omega) ⟨rfl, fun p _ hp => absurd hp (by omega)⟩
      obtain ⟨x4, id1⟩ := v
      obtain ⟨g1, g2⟩ := hI
      dsimp only at g1 g2
      subst g1
      unfold F_X10_learn_120
      dsimp only
      rw [i25, nI_leI (by omega) (by omega)]
      refine ⟨fun q => h _ _ _ S f3 e2 (fun p hp => g2 p hp (by have := (chp_q p hp).2; omega)), fun q => ?_⟩
      have vi : vp_in (nI i) 25 := (vin_n (by omega)).mpr (by omega)
      have hc := chq_p i (by omega)
      have hSi := (f3.1 i (by omega)).1
      rw [nI_clamp (by omega), chp_I i (by omega), nI_clamp (by omega), f4 i (by omega), nar_b (by omega), nI_1]
      refine ⟨vi, vi, (vin_n (by omega)).mpr (by omega), hK2 (by omega) _ ⟨rfl, fun p hp hpi => ?_⟩⟩
      dsimp only
      by_cases z : p = chp i
      · subst z; rw [pk_us, hc.1]
      · rw [pk_un z]
        refine g2 p hp ?_
        have : chq p ≠ i := fun e => z (by rw [← e]; exact (chp_q p hp).1.symm)
        omega
    · have en : (nI (97 + l) + 1).toInt8.toInt32 = nI (97 + (l + 1)) := by rw [nI_1]; exact sx_small _ (by omega)
      have hK' := hK' (by omega)
      have es : sumN (inT T) (l + 1) = sumN (inT T) l + inT T l := rfl
      rw [en]
      refine sp_X2_placeOf hp (fun z => ?_) (fun l' hl' e => ?_)
      · exfalso; apply z; rw [i97, pk_sub (by omega)]; exact (vin_n (by omega)).mpr (by omega)
      · have : l' = l := by have := (nI_eq (by omega) (by omega)).mp e; omega
        subst this
        have ep : plX T l' < 0 ↔ ¬ pidx T l' < 25 := by rw [← plX_nn]; rw [T_lt, T_le]; omega
        rw [ep, i25, nI_leI (by omega) (by omega)]
        refine ⟨fun z => hK' _ ⟨?_, rfl, S, ?_, ?_⟩, fun z => ⟨fun z2 => ?_, fun z2 => ?_⟩⟩
        · dsimp only; rw [es]; unfold inT; rw [if_neg z]; rfl
        · have e0 : inT T l' = 0 := if_neg z
          rw [es, e0, Nat.add_zero]
          refine ⟨fun i hi => ⟨by have := (f3.1 i hi).1; omega, (f3.1 i hi).2⟩, f3.2.1, fun l hl hp => ?_⟩
          rcases Nat.lt_or_ge l l' with q0 | q0
          · exact f3.2.2 l q0 hp
          · rw [show l = l' by omega] at hp; exact absurd hp z
        · have e0 : inT T l' = 0 := if_neg z
          rw [es, e0, Nat.add_zero]; exact f4
        · exfalso
          have e1 : inT T l' = 1 := if_pos (Classical.not_not.mp z)
          have := inT_le T (l' + 1) 26 (by omega); omega
        · have hz := Classical.not_not.mp z
          have e1 : inT T l' = 1 := if_pos hz
          refine sp_X10_sortIn (f := ofn d) (S := S) e2 (fun l => ofn_le hd l) (by omega) (by omega) (fun i hi => by have := (f3.1 i hi).1; omega) f4 (fun so' i hi g1 g2 g3 => ?_)
          rw [nI_1]
          refine hK' _ ⟨by dsimp only; rw [es, e1], rfl, ins S l' i, ?_, ?_⟩
          · rw [es, e1]; exact okS_ins f3 hz hi g2 g3
          · rw [es, e1]; exact g1
  · have h8 := hd.2.2.2.2.2.2.1 w (by omega)
    refine fix_iv (fun k v => v.1 = nI k ∧ ∀ l, l < 26 → v.2 l = nI (tgk d w (tgw d w) k l)) (wl d w) (fun K' k v hk hI hK' => ?_) 0 (by omega) ⟨rfl, e2⟩
    obtain ⟨x4, o2⟩ := v
    obtain ⟨f1, f2⟩ := hI
    dsimp only at f1 f2
    subst f1
    unfold F_X10_learn_24
    dsimp only
    refine sp_X4_lengthOf hX.1 (by omega) ?_
    rw [nI_leI (by omega) (by omega)]
    refine ⟨fun q => ?_, fun q => sp_X4_letterAt hX.1 (by omega) (by omega) ⟨(vin_n (by omega)).mpr (by omega), ?_⟩⟩
    · have : k = wl d w := by omega
      subst this; rw [nI_1]; exact hK (by omega) _ ⟨rfl, f2⟩
    · rw [nI_clamp (by omega), hX.2 w (by omega), nI_1]
      have hc := h8.2.2.2.2 k (by omega)
      refine sp_X10_addTo hc (hK' (by omega) _ ⟨rfl, fun l hl => ?_⟩)
      dsimp only
      unfold tgk
      by_cases z : l = wc d w k
      · subst z; rw [pk_us, if_pos rfl, f2 _ hl, nI_add]
      · rw [pk_un z, if_neg z, f2 l hl]; rfl
end
