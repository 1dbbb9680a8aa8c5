section
variable {d : PD} {T H N : Nat → Nat} {hn n : Nat} {B : Nat → Nat} {aw hs lw lz sw sz kk pa ga gu le mo size taped : Int32} {lln llt sln slt bytes tape st sh ru su ln pl hc kn : Nat → Int32}
/-- the name's letters -/
def cNm (B : Nat → Nat) (a k : Nat) : Nat := B (a + k) - 97
def adB (d : PD) (T B : Nat → Nat) (a i : Nat) (s : Nat → Nat) : Nat → Nat := if a < i then adm d T (cNm B a) (i - a) s else s
def rnB (d : PD) (T B : Nat → Nat) : Nat → Nat × (Nat → Nat)
  | 0 => (0, fun _ => 0)
  | i + 1 => if B i = 32 then (i + 1, adB d T B (rnB d T B i).1 i (rnB d T B i).2) else rnB d T B i
def fiB (d : PD) (T B : Nat → Nat) (n : Nat) : Nat → Nat := adB d T B (rnB d T B n).1 n (rnB d T B n).2
theorem adB_1 {a i : Nat} {s : Nat → Nat} : adB d T B a i s 1 ≤ s 1 + 1 := by
  unfold adB; split
  · exact Nat.le_refl _
  · omega
theorem rnB_i : ∀ i, (rnB d T B i).1 ≤ i ∧ (rnB d T B i).2 1 ≤ i ∧ ∀ k, (rnB d T B i).1 ≤ k → k < i → ¬ B k = 32
  | 0 => ⟨Nat.le_refl _, Nat.le_refl _, fun k _ h => absurd h (Nat.not_lt_zero k)⟩
  | i + 1 => by
    obtain ⟨h1, h2, h3⟩ := rnB_i i
    unfold rnB
    split
    · refine ⟨Nat.le_refl _, ?_, fun k a b => absurd a (by simp only; omega)⟩
      have := adB_1 (d := d) (T := T) (B := B) (a := (rnB d T B i).1) (i := i) (s := (rnB d T B i).2)
      simp only; omega
    · rename_i q
      refine ⟨by omega, by omega, fun k a b => ?_⟩
      rcases Nat.lt_or_ge k i with z | z
      · exact h3 k a z
      · rw [show k = i by omega]; exact q
def gdB (T B : Nat → Nat) (n : Nat) : Prop := ∀ k, k < n → B k = 32 ∨ (97 ≤ B k ∧ B k < 123 ∧ pidx T (B k - 97) < 25)
theorem gd_of {z : Int32} (hz : wrI T B n z = z) (hzn : ∀ k, k ≤ n → ¬ nI k = z) : gdB T B n := by
  unfold wrI at hz
  split at hz
  · exact absurd hz (hzn _ (by omega))
  · rename_i q
    intro k hk
    have := fnd_no (bad T B) n k (by have := fnd_le (bad T B) n; unfold fwr at q; omega)
    unfold bad isL at this
    by_cases y : B k = 32
    · exact Or.inl y
    · right
      have y' : (B k != 32) = true := by simp [y]
      rw [y', Bool.true_and, Bool.not_eq_false'] at this
      exact of_decide_eq_true this
theorem nm_ok (hg : gdB T B n) {i : Nat} (hi : i ≤ n) {k : Nat} (hk : k < i - (rnB d T B i).1) : cNm B (rnB d T B i).1 k < 26 ∧ B ((rnB d T B i).1 + k) = 97 + cNm B (rnB d T B i).1 k ∧ pidx T (cNm B (rnB d T B i).1 k) < 25 := by
  obtain ⟨h1, h2, h3⟩ := rnB_i (d := d) (T := T) (B := B) i
  have q := h3 ((rnB d T B i).1 + k) (by omega) (by omega)
  rcases hg ((rnB d T B i).1 + k) (by omega) with z | ⟨z1, z2, z3⟩
  · exact absurd z q
  · unfold cNm; exact ⟨by omega, by omega, z3⟩
theorem sp_add (hd : okP d) (hS : XS d gu le mo kk pa ga) (hX : XL d lw lz lln llt sw sz sln slt) (hp : ∀ l, l < 26 → pl l = plX T l) (hcv : cov d T) (hn : n ≤ 320) (hB : ∀ k, k < n → B k < 256 ∧ bytes k = sx (B k)) (hg : gdB T B n) {i : Nat} (hi : i ≤ n) (hlt : (rnB d T B i).1 < i) {post : Int32 → Int32 → Int32 → Int32 → Int32 → Int32 → Int32 → Prop} (h : post (nI (adB d T B (rnB d T B i).1 i (rnB d T B i).2 0)) (nI (adB d T B (rnB d T B i).1 i (rnB d T B i).2 1)) (nI (adB d T B (rnB d T B i).1 i (rnB d T B i).2 2)) (nI (adB d T B (rnB d T B i).1 i (rnB d T B i).2 3)) (nI (adB d T B (rnB d T B i).1 i (rnB d T B i).2 4)) (nI (adB d T B (rnB d T B i).1 i (rnB d T B i).2 5)) (nI (adB d T B (rnB d T B i).1 i (rnB d T B i).2 6))) : wp_X7_addName 6 48 6 18 (nI ((rnB d T B i).2 0)) (nI ((rnB d T B i).2 1)) (nI ((rnB d T B i).2 2)) (nI ((rnB d T B i).2 3)) (nI ((rnB d T B i).2 4)) (nI ((rnB d T B i).2 5)) (nI ((rnB d T B i).2 6)) kk pa ga lw lz lln llt bytes sw sz sln slt pl (nI (rnB d T B i).1) (nI (i - (rnB d T B i).1)) post := by
  obtain ⟨h1, h2, h3⟩ := rnB_i (d := d) (T := T) (B := B) i
  have e : adB d T B (rnB d T B i).1 i (rnB d T B i).2 = adm d T (cNm B (rnB d T B i).1) (i - (rnB d T B i).1) (rnB d T B i).2 := if_pos hlt
  rw [e] at h
  refine sp_addName hd hS hX hp hcv (by omega) (by omega) (by omega) (fun k hk => ?_) h
  have q := nm_ok (d := d) hg hi hk
  exact ⟨q.1, by rw [(hB _ (by omega)).2, q.2.1]; exact sx_small _ (by omega), q.2.2⟩
theorem sp_lay (hd : okP d) (hR : MS d ru) (hM : MH d sh) (hst : MT 0 T st) (hT : okT T) (hcv : cov d T) (hn : n ≤ 320) (hB : ∀ k, k < n → B k < 256 ∧ tape k = nI (B k)) (hg : gdB T B n) {i : Nat} (hi : i ≤ n) (hsu : ∀ j, j < 7 → su j = nI ((rnB d T B i).2 j)) {K : (Int32 × Int32 × (Nat → Int32)) → Prop} (h : ∀ su', (∀ j, j < 7 → su' j = nI (adB d T B (rnB d T B i).1 i (rnB d T B i).2 j)) → K (nI (i + 1), nI (i + 1), su')) : B_X12_takes_81 tape ru sh (nI (rnB d T B i).1) (nI i) st su K := by
  obtain ⟨h1, h2, h3⟩ := rnB_i (d := d) (T := T) (B := B) i
  unfold B_X12_takes_81
  rw [nI_leI (by omega) (by omega), nI_1]
  refine ⟨fun q => h su (by unfold adB; rw [if_neg (by omega)]; exact hsu), fun q => ?_⟩
  have e : adB d T B (rnB d T B i).1 i (rnB d T B i).2 = adm d T (cNm B (rnB d T B i).1) (i - (rnB d T B i).1) (rnB d T B i).2 := if_pos (by omega)
  rw [e] at h
  have := sp_layName (tp := tape) (a := (rnB d T B i).1) (L := i - (rnB d T B i).1) (c := cNm B (rnB d T B i).1) (s := (rnB d T B i).2) (su := su) hd hR hM hst hT hcv (by omega) (by omega) (by omega) (fun k hk => by
    have q := nm_ok (d := d) hg hi hk
    exact ⟨q.1, by rw [(hB _ (by omega)).2, q.2.1], q.2.2⟩) hsu (post := fun u => K (nI (i + 1), nI (i + 1), u)) h
  rw [show (rnB d T B i).1 + (i - (rnB d T B i).1) = i by omega] at this
  exact this
theorem sp_measure (hd : okP d) (hS : XS d gu le mo kk pa ga) (hX : XL d lw lz lln llt sw sz sln slt) (hp : ∀ l, l < 26 → pl l = plX T l) (hcv : cov d T) (hn : n ≤ 320) (hB : ∀ k, k < n → B k < 256 ∧ bytes k = sx (B k)) (hg : gdB T B n) {y0 y1 y2 y3 y4 y5 y6 : Int32} {post : Int32 → Int32 → Int32 → Int32 → Int32 → Int32 → Int32 → Prop} (h : post (nI (fiB d T B n 0)) (nI (fiB d T B n 1)) (nI (fiB d T B n 2)) (nI (fiB d T B n 3)) (nI (fiB d T B n 4)) (nI (fiB d T B n 5)) (nI (fiB d T B n 6))) : wp_X7_measure 6 48 6 18 y0 y1 y2 y3 y4 y5 y6 (nI n) kk pa ga lw lz lln llt bytes sw sz sln slt pl post := by
  unfold wp_X7_measure
  refine fix_0 (fun i => (nI (i - (rnB d T B i).1), nI i, nI ((rnB d T B i).2 0), nI ((rnB d T B i).2 1), nI ((rnB d T B i).2 2), nI ((rnB d T B i).2 3), nI ((rnB d T B i).2 4), nI ((rnB d T B i).2 5), nI ((rnB d T B i).2 6))) n rfl ?_
  intro K i hi hK
  obtain ⟨h1, h2, h3⟩ := rnB_i (d := d) (T := T) (B := B) i
  unfold F_X7_measure_41
  dsimp only
  have eS : ∀ m, nI m - nI (m - (rnB d T B m).1) = nI (rnB d T B m).1 := fun m => by
    have := (rnB_i (d := d) (T := T) (B := B) m).1
    rw [pk_sub (by omega)]; congr 1; omega
  rw [nI_leI (by omega) (by omega), i0, nI_leI (by omega) (by omega)]
  refine ⟨fun q => ?_, fun q => ⟨(vin_n (by omega)).mpr (by omega), ?_⟩⟩
  · have : i = n := by omega
    subst this
    rw [eS]
    unfold fiB at h
    refine ⟨fun z => ?_, fun z => sp_add hd hS hX hp hcv hn hB hg hi (by omega) h⟩
    unfold adB at h
    rw [if_neg (by omega)] at h; exact h
  · have hK := hK (by omega)
    have hBi := hB i (by omega)
    rw [nI_clamp (by omega), hBi.2, show (32 : Int32) = nI 32 from rfl, sx_eq hBi.1 (by decide), eS]
    rw [rnB] at hK
    refine ⟨fun z => ?_, fun z => ?_⟩
    · rw [if_pos z] at hK
      dsimp only at hK
      rw [show i + 1 - (i + 1) = 0 by omega] at hK
      refine ⟨fun y => ?_, fun y => sp_add hd hS hX hp hcv hn hB hg hi (by omega) (by rw [nI_1]; exact hK)⟩
      unfold adB at hK
      rw [if_neg (by omega)] at hK
      rw [nI_1, show i - (rnB d T B i).1 = 0 by omega]; exact hK
    · rw [if_neg z] at hK
      rw [nI_1, nI_1, show i - (rnB d T B i).1 + 1 = i + 1 - (rnB d T B i).1 by omega]; exact hK
theorem sp_takesM (hd : okP d) (hR : MS d ru) (hM : MH d sh) (hst : MT 0 T st) (hT : okT T) (hcv : cov d T) (hn : n ≤ 320) (hB : ∀ k, k < n → B k < 256 ∧ tape k = nI (B k)) (hg : gdB T B n) {x : Nat} (hx : x < 7) {post : Int32 → Int32 → (Nat → Int32) → (Nat → Int32) → Prop} (h : ∀ su', post (nI (fiB d T B n x)) 1 st su') : ∃ m, fixN (F_X12_takes_32 (nI n) tape ru sh (nI x) 1 st post) m (0, su) := by
  refine fix_iv (fun i v => v.1 = nI i ∧ ∀ j, j < i → v.2 j = nI 0) 7 (fun K i v hi hI hK => ?_) 0 (by omega) ⟨rfl, fun j hj => absurd hj (Nat.not_lt_zero j)⟩
  obtain ⟨x2, s1⟩ := v
  obtain ⟨e1, e2⟩ := hI
  dsimp only at e1 e2
  subst e1
  unfold F_X12_takes_32
  dsimp only
  rw [i7, nI_leI (by omega) (by omega)]
  refine ⟨fun c => ?_, fun c => ⟨(vin_n (by omega)).mpr (by omega), ?_⟩⟩
  · have : i = 7 := by omega
    subst this
    refine fix_iv (fun i v => v.2.1 = nI i ∧ (i ≤ n → v.1 = nI (rnB d T B i).1 ∧ ∀ j, j < 7 → v.2.2 j = nI ((rnB d T B i).2 j)) ∧ (n < i → ∀ j, j < 7 → v.2.2 j = nI (fiB d T B n j))) (n + 1) (fun K i v hi hI hK => ?_) 0 (by omega) ⟨rfl, fun _ => ⟨rfl, e2⟩, fun z => absurd z (by omega)⟩
    obtain ⟨x2, x3, s2⟩ := v
    obtain ⟨f1, f2, f3⟩ := hI
    dsimp only at f1 f2 f3
    subst f1
    unfold F_X12_takes_55
    dsimp only
    rw [nI_ltI (by omega) (by omega), nI_clamp (by omega)]
    refine ⟨fun q => ⟨(vin_n (by omega)).mpr hx, by rw [f3 q x hx]; exact h s2⟩, fun q => ?_⟩
    have hin : i ≤ n := by omega
    obtain ⟨g1, g2⟩ := f2 hin
    subst g1
    have hK := hK (by omega)
    have lay : (i = n ∨ B i = 32) → B_X12_takes_81 tape ru sh (nI (rnB d T B i).1) (nI i) st s2 K := fun y => by
      refine sp_lay hd hR hM hst hT hcv hn hB hg hin g2 (fun su' hsu' => hK _ ⟨rfl, fun z => ?_, fun z => ?_⟩)
      · have y' : B i = 32 := by rcases y with y | y; omega; exact y
        dsimp only
        rw [rnB, if_pos y']
        exact ⟨rfl, hsu'⟩
      · have : i = n := by omega
        subst this; exact hsu'
    unfold wp_X12_byteAt
    rw [nI_leI (by omega) (by omega), nI_eq (by omega) (by omega), nI_1]
    refine ⟨fun z => ⟨fun y => absurd y (by decide), fun _ => ⟨fun y => absurd (by omega) y, fun _ => lay (Or.inl (by omega))⟩⟩, fun z => ⟨(vin_n (by omega)).mpr (by omega), ?_⟩⟩
    have hBi := hB i (by omega)
    rw [nI_clamp (by omega), hBi.2]
    dsimp only
    rw [show (32 : Int32) = nI 32 from rfl, nI_eq (by omega) (by omega)]
    refine ⟨fun y => lay (Or.inr y), fun y => ⟨fun _ => hK _ ⟨rfl, fun _ => ?_, fun t => absurd t (by omega)⟩, fun t => absurd t (by omega)⟩⟩
    dsimp only
    rw [rnB, if_neg y]
    exact ⟨rfl, g2⟩
  · rw [nI_clamp (by omega), nI_1]
    refine hK (by omega) _ ⟨rfl, fun j hj => ?_⟩
    dsimp only
    rcases Nat.lt_or_ge j i with z | z
    · rw [pk_un (by omega)]; exact e2 j z
    · have : j = i := by omega
      subst this; rw [pk_us]; rfl
theorem wr_neg (hn : n ≤ 320) : wrI T B n (-1) < 0 ↔ wrI T B n (-4) = -4 := by
  have a := fnd_le (bad T B) n
  unfold wrI
  split
  · exact ⟨fun q => absurd q (nI_pos (by unfold fwr; omega)), fun q => absurd q (nI_ne_ng (b := 4) (by unfold fwr; omega) (by decide) (by decide))⟩
  · split
    · exact ⟨fun q => absurd q (nI_pos (by omega)), fun q => absurd q (nI_ne_ng (b := 4) (by omega) (by decide) (by decide))⟩
    · exact ⟨fun _ => rfl, fun _ => by decide⟩
theorem sim_takes {y0 y1 y2 y3 y4 y5 y6 : Int32} (hd : okP d) (hS : XS d gu le mo kk pa ga) (hX : XL d lw lz lln llt sw sz sln slt) (hR : MS d ru) (hM : MH d sh) (hRT : RT n B size bytes taped tape) (h : RI d aw st ln pl hs hc kn) (x : Int32) : wp_X11_takes 6 48 6 18 size bytes pl y0 y1 y2 y3 y4 y5 y6 kk pa ga lw lz lln llt sw sz sln slt x (fun r _ _ _ _ _ _ _ => wp_X12_takes taped aw st tape su ru sh x (fun r' aw' st' _ => r = r' ∧ RI d aw' st' ln pl hs hc kn ∧ KS st st' aw aw')) := by
  obtain ⟨T, H, N, hn, h1, h2, h3, h4, h5⟩ := h
  obtain ⟨t1, t2, t3, t4⟩ := hRT
  subst t2; subst t3
  have tb : ∀ k, k < n → B k < 256 ∧ bytes k = sx (B k) := fun k hk => ⟨(t4 k hk).1, (t4 k hk).2.1⟩
  have tt : ∀ k, k < n → B k < 256 ∧ tape k = nI (B k) := fun k hk => ⟨(t4 k hk).1, (t4 k hk).2.2⟩
  have ez : vp_in x 7 ↔ 0 ≤ x ∧ x < 7 := vin_I (by decide)
  have no : ¬ vp_in x 7 → wp_X12_takes (nI n) aw st tape su ru sh x (fun r' aw' st' _ => -1 = r' ∧ RI d aw' st' ln pl hs hc kn ∧ KS st st' aw aw') := fun c => by
    unfold wp_X12_takes
    exact aw2 h1 h2 h3 h4 h5 (fun st' m1 m2 m3 m4 m5 => sp_in0 (b := 6) (n := 7) (by decide) le_6 (fun _ => ⟨fun q => absurd rfl q, fun _ => ⟨rfl, m4, m5⟩⟩) (fun q => absurd q c))
  unfold wp_X11_takes
  refine ⟨fun q => no (by rw [ez]; grind), fun q => ⟨fun q2 => ?_, fun q2 => no (by rw [ez]; grind)⟩⟩
  have c7 : vp_in x 7 := by rw [ez]; grind
  refine sp_X9_firstWrong t1 tb h3.2.1 ?_
  rw [wr_neg t1]
  refine ⟨fun z => ?_, fun z => ?_⟩
  · have hg : gdB T B n := gd_of z (fun k hk => nI_ne_ng (b := 4) (by omega) (by decide) (by decide))
    refine sp_measure hd hS hX h3.2.1 h2 t1 tb hg ?_
    obtain ⟨j, hj, rfl⟩ := vin_ex (by decide) c7
    have model : wp_X12_takes (nI n) aw st tape su ru sh (nI j) (fun r' aw' st' _ => nI (fiB d T B n j) = r' ∧ RI d aw' st' ln pl hs hc kn ∧ KS st st' aw aw') := by
      unfold wp_X12_takes
      refine aw2 h1 h2 h3 h4 h5 (fun st' m1 m2 m3 m4 m5 => sp_in0 (b := 6) (n := 7) (by decide) le_6 (fun q => absurd c7 q) (fun _ => ⟨fun _ => sp_X12_wrongPlace t1 tt h1.1 m1 ⟨fun _ => ?_, fun y => absurd z y⟩, fun q => absurd q (by decide)⟩))
      exact sp_takesM hd hR hM m1 h1.1 h2 t1 tt hg hj (fun su' => ⟨rfl, m4, m5⟩)
    have ej : ∀ k : Nat, k < 7 → (nI j = nI k ↔ j = k) := fun k hk => nI_eq (by omega) (by omega)
    have e0 := ej 0 (by omega); have e1 := ej 1 (by omega); have e2 := ej 2 (by omega); have e3 := ej 3 (by omega); have e4 := ej 4 (by omega); have e5 := ej 5 (by omega)
    rw [i0, i1, i2, i3, i4, i5, e0, e1, e2, e3, e4, e5]
    refine ⟨fun y => ?_, fun y => ?_, fun y => ?_, fun y => ?_, fun y => ?_, fun y => ?_, fun a0 a1 a2 a3 a4 a5 => ?_⟩
    · subst y; exact model
    · subst y; exact model
    · subst y; exact model
    · subst y; exact model
    · subst y; exact model
    · subst y; exact model
    · have : j = 6 := by omega
      subst this; exact model
  · unfold wp_X12_takes
    exact aw2 h1 h2 h3 h4 h5 (fun st' m1 m2 m3 m4 m5 => sp_in0 (b := 6) (n := 7) (by decide) le_6 (fun q => absurd c7 q) (fun _ => ⟨fun _ => sp_X12_wrongPlace t1 tt h1.1 m1 ⟨fun y => absurd y z, fun _ => ⟨rfl, m4, m5⟩⟩, fun q => absurd q (by decide)⟩))
end
