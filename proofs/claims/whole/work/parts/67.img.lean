/-! swap, wrong, images -/
theorem pidx_iff {T : Nat → Nat} {l : Nat} : pidx T l < 25 ↔ ∃ p, p < 25 ∧ T p = l := by
  constructor
  · intro h; exact ⟨pidx T l, h, pidx_T h⟩
  · rintro ⟨p, hp, e⟩
    rcases Nat.lt_or_ge (pidx T l) 25 with q | q
    · exact q
    · exact absurd e (pidx_no (by omega) hp)
theorem cov_of {d : PD} {T T' : Nat → Nat} (h : cov d T) (he : ∀ l, pidx T l < 25 → pidx T' l < 25) : cov d T' := ⟨fun w hw k hk => he _ (h.1 w hw k hk), fun s hs k hk => he _ (h.2.1 s hs k hk), fun s hs k hk => he _ (h.2.2 s hs k hk)⟩
def swT (T : Nat → Nat) (a b : Nat) : Nat → Nat := fun p => if p = b then T a else if p = a then T b else T p
theorem swT_ok {T : Nat → Nat} (hT : okT T) {a b : Nat} (ha : a < 25) (hb : b < 25) : okT (swT T a b) := by
  constructor
  · intro p hp; unfold swT; have := hT.1 a ha; have := hT.1 b hb; have := hT.1 p hp; split
    · omega
    · split <;> omega
  · intro p q hp hq e
    unfold swT at e
    have h1 := hT.2 a b ha hb; have h2 := hT.2 a q ha hq; have h3 := hT.2 b q hb hq
    have h4 := hT.2 p a hp ha; have h5 := hT.2 p b hp hb; have h6 := hT.2 p q hp hq
    have h7 := hT.2 b a hb ha
    split at e <;> split at e <;> (try split at e) <;> (try split at e) <;> omega
theorem sp_X2_put {le pl : Nat → Int32} {a l : Nat} {post : (Nat → Int32) → (Nat → Int32) → Prop} (ha : a < 25) (hl : l < 26) (h : post (upd le a (nI (97 + l))) (upd pl l (nI a))) : wp_X2_put le pl (nI a) (nI (97 + l)) post := by
  unfold wp_X2_put
  have e : nI (97 + l) - 97 = nI l := by rw [i97, pk_sub (by omega)]; congr 1; omega
  refine sp_X11_isPlace (fun q => absurd ((vin_n (by omega)).mpr ha) q) (fun _ => ⟨fun q => absurd q (by decide), fun _ => sp_X9_isLetter (fun q => absurd (by rw [e]; exact (vin_n (by omega)).mpr hl) q) (fun _ => ⟨fun q => absurd q (by decide), fun _ => ?_⟩)⟩)
  rw [e, nI_clamp (by omega), nI_clamp (by omega), vp_nar_byte, pk_vb]
  have s1 : (nI (97 + l)).toInt8.toInt32 = nI (97 + l) := sx_small _ (by omega)
  have s2 : (nI a).toInt8.toInt32 = nI a := sx_small _ (by omega)
  rw [s1, s2]
  exact ⟨(vin_n (by omega)).mpr ha, (vin_n (by omega)).mpr hl, h⟩
section
variable {d : PD} {aw : Int32} {st le pl : Nat → Int32} {hs : Int32} {hc kn : Nat → Int32}
theorem sim_swap (h : RI d aw st le pl hs hc kn) (x y : Int32) : wp_X11_swap le pl x y (fun r le' pl' => wp_X12_swap aw st x y (fun r' aw' st' => r = r' ∧ RI d aw' st' le' pl' hs hc kn ∧ KS st st' aw aw')) := by
  unfold wp_X11_swap
  refine sp_X11_isPlace (fun c => ⟨fun _ => ?_, fun q => absurd rfl q⟩) (fun c => ⟨fun q => absurd q (by decide), fun _ => sp_X11_isPlace (fun c2 => ⟨fun q => absurd rfl q, fun _ => ?_⟩) (fun c2 => ⟨fun _ => ?_, fun q => absurd q (by decide)⟩)⟩)
  · unfold wp_X12_swap
    exact aw_use h (fun T H N hn st' a1 a2 a3 a4 a5 a6 a7 => sp_X12_isPlace (fun _ => ⟨fun _ => ⟨rfl, a6, a7⟩, fun q => absurd rfl q⟩) (fun q => absurd q c))
  · unfold wp_X12_swap
    exact aw_use h (fun T H N hn st' a1 a2 a3 a4 a5 a6 a7 => sp_X12_isPlace (fun q => absurd c q) (fun _ => ⟨fun q => absurd q (by decide), fun _ => sp_X12_isPlace (fun _ => ⟨fun q => absurd rfl q, fun _ => ⟨rfl, a6, a7⟩⟩) (fun q => absurd q c2)⟩))
  · obtain ⟨a, ha, rfl⟩ := vin_ex (by decide) c
    obtain ⟨b, hb, rfl⟩ := vin_ex (by decide) c2
    obtain ⟨T, H, N, hn, h1, h2, h3, h4, h5⟩ := id h
    have hTa := h1.1.1 a ha
    have hTb := h1.1.1 b hb
    rw [nI_eq (by omega) (by omega)]
    refine ⟨fun ne => ⟨c, c2, ?_⟩, fun e => ?_⟩
    · rw [nI_clamp (by omega), nI_clamp (by omega), h3.1 a ha, h3.1 b hb]
      refine sp_X2_put ha hTb (sp_X2_put hb hTa ?_)
      unfold wp_X12_swap
      refine sp_X12_awake h4 (fun st' m1 m2 => ?_)
      refine sp_X12_isPlace (fun q => absurd c q) (fun _ => ⟨fun q => absurd q (by decide), fun _ => sp_X12_isPlace (fun q => absurd c2 q) (fun _ => ⟨fun _ => ?_, fun q => absurd q (by decide)⟩)⟩)
      have ea := m1 a ha
      have eb := m1 b hb
      rw [Nat.zero_add] at ea eb
      rw [nI_eq (by omega) (by omega), nI_clamp (by omega), nI_clamp (by omega), ea, eb]
      have hok := swT_ok h1.1 ha hb
      have hpx : ∀ p, p < 25 → pidx (swT T a b) (swT T a b p) = p := fun p hp => pidx_of hok hp
      have hin : ∀ l, pidx T l < 25 → pidx (swT T a b) l < 25 := fun l hl => by
        rw [pidx_iff] at hl ⊢
        obtain ⟨p, hp, e⟩ := hl
        by_cases q1 : p = a
        · exact ⟨b, hb, by unfold swT; rw [if_pos rfl, ← q1]; exact e⟩
        · by_cases q2 : p = b
          · exact ⟨a, ha, by unfold swT; rw [if_neg ne, if_pos rfl, ← q2]; exact e⟩
          · exact ⟨p, hp, by unfold swT; rw [if_neg q2, if_neg q1]; exact e⟩
      refine ⟨(vin_n (by omega)).mpr (by omega), (vin_n (by omega)).mpr (by omega), (vin_n (by omega)).mpr (by omega), (vin_n (by omega)).mpr (by omega), fun _ => ⟨rfl, ⟨swT T a b, H, N, hn, ⟨hok, h1.2⟩, cov_of h2 hin, ⟨fun p hp => ?_, fun l hl => ?_, h3.2.2⟩, Or.inl ⟨rfl, fun p hp => ?_⟩, h5.kept h1.2.1 (fun j p q => ?_)⟩, fun j hj => ?_, fun _ => rfl⟩, fun q => absurd q ne⟩
      · unfold swT
        by_cases q2 : p = b
        · rw [q2, pk_us, if_pos rfl]
        · rw [pk_un q2, if_neg q2]
          by_cases q1 : p = a
          · rw [q1, pk_us, if_pos rfl]
          · rw [pk_un q1, if_neg q1]; exact h3.1 p hp
      · by_cases q1 : l = T a
        · rw [q1, pk_us]
          have := hpx b hb
          rw [show swT T a b b = T a by unfold swT; rw [if_pos rfl]] at this
          rw [plX_in (by rw [this]; exact hb), this]
        · rw [pk_un q1]
          by_cases q2 : l = T b
          · rw [q2, pk_us]
            have := hpx a ha
            rw [show swT T a b a = T b by unfold swT; rw [if_neg ne, if_pos rfl]] at this
            rw [plX_in (by rw [this]; exact ha), this]
          · rw [pk_un q2, h3.2.1 l hl]
            by_cases q3 : pidx T l < 25
            · have e := pidx_T q3
              have n1 : pidx T l ≠ a := fun z => q1 (by rw [← z]; exact e.symm)
              have n2 : pidx T l ≠ b := fun z => q2 (by rw [← z]; exact e.symm)
              have := hpx _ q3
              rw [show swT T a b (pidx T l) = l by unfold swT; rw [if_neg n2, if_neg n1]; exact e] at this
              rw [plX_in q3, plX_in (by rw [this]; exact q3), this]
            · rw [plX_out q3, plX_out]
              intro q4
              apply q3
              rw [pidx_iff] at q4 ⊢
              obtain ⟨p, hp, e⟩ := q4
              unfold swT at e
              split at e
              · exact absurd e.symm q1
              · split at e
                · exact absurd e.symm q2
                · exact ⟨p, hp, e⟩
      · rw [Nat.zero_add]
        unfold swT
        by_cases q2 : p = b
        · rw [q2, pk_us, if_pos rfl]
        · rw [pk_un q2, if_neg q2]
          by_cases q1 : p = a
          · rw [q1, pk_us, if_pos rfl]
          · rw [pk_un q1, if_neg q1]; have := m1 p hp; rw [Nat.zero_add] at this; exact this
      · rw [pk_un (by omega), pk_un (by omega)]; exact m2 j (by omega)
      · rw [pk_un (by omega), pk_un (by omega)]; exact m2 j (by omega)
    · subst e
      unfold wp_X12_swap
      refine aw_use h (fun T H N hn st' a1 a2 a3 a4 a5 a6 a7 => sp_X12_isPlace (fun q => absurd c q) (fun _ => ⟨fun q => absurd q (by decide), fun _ => sp_X12_isPlace (fun q => absurd c2 q) (fun _ => ⟨fun _ => ?_, fun q => absurd q (by decide)⟩)⟩))
      have e9 : upd (upd st' (nI a).toNatClampNeg (st' (nI a).toNatClampNeg)) (nI a).toNatClampNeg (st' (nI a).toNatClampNeg) = st' := by
        funext j
        by_cases q : j = (nI a).toNatClampNeg
        · rw [q, pk_us]
        · rw [pk_un q, pk_un q]
      rw [e9]
      exact ⟨(vin_n (by omega)).mpr (by omega), (vin_n (by omega)).mpr (by omega), (vin_n (by omega)).mpr (by omega), (vin_n (by omega)).mpr (by omega), fun q => absurd rfl q, fun _ => ⟨rfl, a6, a7⟩⟩
/-! wrong -/
def isL (T B : Nat → Nat) (k : Nat) : Bool := decide (97 ≤ B k ∧ B k < 123 ∧ pidx T (B k - 97) < 25)
def bad (T B : Nat → Nat) (k : Nat) : Bool := B k != 32 && !isL T B k
def fwr (T B : Nat → Nat) (n : Nat) : Nat := fnd (bad T B) n
def blk (B : Nat → Nat) : Nat → Bool
  | 0 => true
  | k + 1 => blk B k && B k == 32
def wrI (T B : Nat → Nat) (n : Nat) (z : Int32) : Int32 := if fwr T B n < n then nI (fwr T B n) else if blk B n then nI n else z
theorem sp_X9_firstWrong {n : Nat} {B : Nat → Nat} {T : Nat → Nat} {bytes : Nat → Int32} {post : Int32 → Prop} (hn : n ≤ 320) (hB : ∀ k, k < n → B k < 256 ∧ bytes k = sx (B k)) (hp : ∀ l, l < 26 → pl l = plX T l) (h : post (wrI T B n (-1))) : wp_X9_firstWrong (nI n) bytes pl post := by
  have hl := fnd_le (bad T B) n
  have hno := fnd_no (bad T B) n
  have hyes := fnd_yes (bad T B) n
  unfold wp_X9_firstWrong
  refine fix_0 (fun k => (bN (blk B k), nI k)) (fwr T B n) rfl ?_
  intro K k hk hK
  unfold wrI fwr at *
  unfold F_X9_firstWrong_4
  dsimp only
  simp (disch := omega) only [nI_leI, vin_n, nI_clamp, nI_1]
  refine ⟨fun c => ?_, fun c => ⟨by omega, ?_⟩⟩
  · have : k = n := by omega
    subst this
    rw [if_neg (by omega)] at h
    rw [bN_0]
    refine ⟨fun q => by rw [q] at h; exact h, fun q => ?_⟩
    rw [show blk B k = true by simpa using q] at h
    exact h
  · have hb := hB k (by omega)
    rw [hb.2, show (32 : Int32) = nI 32 from rfl, sx_eq hb.1 (by omega)]
    have nb : ∀ q : bad T B k = false, K (bN (blk B (k + 1)), nI (k + 1)) := fun q => hK (by
      rcases Nat.lt_or_ge k (fnd (bad T B) n) with z | z
      · exact z
      · have : k = fnd (bad T B) n := by omega
        have := hyes (by omega)
        simp_all)
    have yb : ∀ q : bad T B k = true, post (nI k) := fun q => by
      have : k = fnd (bad T B) n := by
        rcases Nat.lt_or_ge k (fnd (bad T B) n) with z | z
        · have := hno k z; simp_all
        · omega
      rw [← this, if_pos (by omega)] at h
      exact h
    refine ⟨fun q => ?_, fun q => ⟨by omega, sp_X2_placeOf hp (fun z => ?_) (fun l hl' z => ?_)⟩⟩
    · have := nb (by unfold bad; rw [q]; rfl)
      rw [show blk B (k + 1) = blk B k by rw [blk, q]; simp] at this
      exact this
    · rw [sx_let hb.1] at z
      refine ⟨fun q => absurd q (by decide), fun _ => yb ?_⟩
      unfold bad isL
      rw [show (B k != 32) = true by simpa using q, decide_eq_false (by omega)]; rfl
    · have e := (sx_eq hb.1 (by omega)).mp z
      rw [plX_nn]
      refine ⟨fun w => ?_, fun w => yb ?_⟩
      · have := nb (by unfold bad isL; rw [decide_eq_true (by rw [e, show 97 + l - 97 = l by omega]; exact ⟨by omega, by omega, w⟩)]; simp)
        rw [show blk B (k + 1) = false by rw [blk, show (B k == 32) = false by simpa using q]; simp] at this
        exact this
      · unfold bad isL
        rw [show (B k != 32) = true by simpa using q, decide_eq_false (by rw [e, show 97 + l - 97 = l by omega]; exact fun z => w z.2.2)]; rfl
theorem sp_X12_wrongPlace {n : Nat} {B : Nat → Nat} {T : Nat → Nat} {tape : Nat → Int32} {post : Int32 → Prop} (hn : n ≤ 320) (hB : ∀ k, k < n → B k < 256 ∧ tape k = nI (B k)) (hT : okT T) (hm : MT 0 T st) (h : post (wrI T B n (-4))) : wp_X12_wrongPlace (nI n) tape st post := by
  have hl := fnd_le (bad T B) n
  have hno := fnd_no (bad T B) n
  have hyes := fnd_yes (bad T B) n
  have hst : ∀ p, p < 25 → st p = nI (T p) := fun p hp => by have := hm p hp; rw [Nat.zero_add] at this; exact this
  unfold wp_X12_wrongPlace
  refine fix_0 (fun k => (bN (!blk B k), nI k)) (fwr T B n) rfl ?_
  intro K k hk hK
  unfold wrI fwr at *
  unfold F_X12_wrongPlace_4
  dsimp only
  simp (disch := omega) only [nI_leI, vin_n, nI_clamp]
  refine ⟨fun c => ?_, fun c => ⟨by omega, ?_⟩⟩
  · have : k = n := by omega
    subst this
    rw [if_neg (by omega)] at h
    rw [bN_0]
    refine ⟨fun q => ?_, fun q => ?_⟩
    · rw [show blk B k = true by simpa using q] at h; exact h
    · rw [show blk B k = false by simpa using q] at h; exact h
  · have hb := hB k (by omega)
    rw [hb.2]
    have nb : ∀ q : bad T B k = false, K (bN (!blk B (k + 1)), nI (k + 1)) := fun q => hK (by
      rcases Nat.lt_or_ge k (fnd (bad T B) n) with z | z
      · exact z
      · have : k = fnd (bad T B) n := by omega
        have := hyes (by omega)
        simp_all)
    have yb : ∀ q : bad T B k = true, post (nI k) := fun q => by
      have : k = fnd (bad T B) n := by
        rcases Nat.lt_or_ge k (fnd (bad T B) n) with z | z
        · have := hno k z; simp_all
        · omega
      rw [← this, if_pos (by omega)] at h
      exact h
    have stepL : isL T B k = true → B_X12_wrongPlace_54 tape (bN (!blk B k)) (nI k) 1 post K := fun hL => by
      unfold B_X12_wrongPlace_54 B_X12_wrongPlace_72
      have hne : (B k == 32) = false := by unfold isL at hL; simp at hL; simp; omega
      have := nb (by unfold bad; rw [hL]; simp)
      rw [show blk B (k + 1) = false by rw [blk, hne]; simp] at this
      rw [nI_1]
      exact ⟨fun _ => ⟨fun _ => this, fun _ => ⟨fun q => absurd q (by decide), fun _ => this⟩⟩, fun q => absurd q (by decide)⟩
    have stepN : isL T B k = false → B_X12_wrongPlace_53 tape (bN (!blk B k)) (nI k) post K := fun hL => by
      unfold B_X12_wrongPlace_53 B_X12_wrongPlace_54 B_X12_wrongPlace_72
      rw [nI_clamp (by omega), hb.2, show (32 : Int32) = nI 32 from rfl, nI_eq (by omega) (by omega), nI_1]
      refine ⟨fun q => absurd rfl q, fun _ => ⟨(vin_n (by omega)).mpr (by omega), fun q => ?_, fun q => yb (by unfold bad; rw [hL]; simpa using q)⟩⟩
      have := nb (by unfold bad; rw [q]; rfl)
      rw [show blk B (k + 1) = blk B k by rw [blk, q]; simp] at this
      revert this; cases blk B k <;> intro this
      · exact ⟨fun _ => this, fun z => absurd z (by decide)⟩
      · exact ⟨fun z => absurd rfl z, fun _ => ⟨fun _ => this, fun z => absurd rfl z⟩⟩
    have e97 : vp_in (nI (B k) - 97) 26 ↔ (97 ≤ B k ∧ B k < 123) := by
      rw [i97]
      rcases Nat.lt_or_ge (B k) 97 with q | q
      · exact ⟨fun z => absurd (Or.inl (pk_sneg (by omega) q)) z, fun z => by omega⟩
      · rw [pk_sub q, vin_n (by omega)]; omega
    refine sp_in97 (fun z => ⟨fun _ => stepN ?_, fun q => absurd rfl q⟩) (fun z => ⟨fun q => absurd q (by decide), fun _ => ⟨by omega, ?_⟩⟩)
    · rw [e97] at z; unfold isL; exact decide_eq_false (by omega)
    · rw [e97] at z
      rw [i97, pk_sub (by omega)]
      refine sp_X12_placeOf hst hT (by omega) ?_
      by_cases w : pidx T (B k - 97) < 25
      · rw [plc_in w]
        exact ⟨fun q => absurd q (nI_ne_ng (by omega) (b := 4) (by decide) (by decide)), fun _ => stepL (decide_eq_true ⟨z.1, z.2, w⟩)⟩
      · rw [plc_out w]
        exact ⟨fun _ => stepN (decide_eq_false (fun q => w q.2.2)), fun q => absurd rfl q⟩
theorem XI_same {T T' H N H' N' : Nat → Nat} {hn hn' : Nat} (h : XI T H N hn le pl hc kn hs) (h' : XI T' H' N' hn' le pl hc kn hs) (h1 : okT T) (h2 : okT T') : ∀ p, p < 25 → T p = T' p := fun p hp => by
  have := (nI_eq (by have := h1.1 p hp; omega) (by have := h2.1 p hp; omega)).mp ((h.1 p hp).symm.trans (h'.1 p hp))
  omega
theorem pidx_same {T T' : Nat → Nat} (h : ∀ p, p < 25 → T p = T' p) (l : Nat) : pidx T l = pidx T' l := by
  by_cases q : pidx T l < 25
  · have e := pidx_T q
    unfold pidx at *
    refine (fnd_at q (by rw [← h _ q]; simpa using e) (fun k hk => ?_)).symm
    rw [← h k (by omega)]
    exact fnd_no (fun p => T p == l) 25 k hk
  · have a : pidx T l = 25 := by have := pidx_le T l; omega
    rw [a]
    exact (pidx_out (fun p hp => by rw [← h p hp]; exact pidx_no q hp)).symm
theorem isL_same {T T' B : Nat → Nat} (h : ∀ p, p < 25 → T p = T' p) (k : Nat) : isL T B k = isL T' B k := by unfold isL; rw [pidx_same h]
theorem wrI_same {T T' B : Nat → Nat} (h : ∀ p, p < 25 → T p = T' p) (n : Nat) (z : Int32) : wrI T B n z = wrI T' B n z := by
  have : bad T B = bad T' B := funext fun k => by unfold bad; rw [isL_same h]
  unfold wrI fwr; rw [this]
theorem sim_wrong {n : Nat} {B : Nat → Nat} {size taped : Int32} {bytes tape : Nat → Int32} (hR : RT n B size bytes taped tape) (h : RI d aw st le pl hs hc kn) : wp_X11_wrong size bytes pl (fun r => wp_X12_wrong taped aw st tape (fun r' aw' st' => r = r' ∧ RI d aw' st' le pl hs hc kn ∧ KS st st' aw aw')) := by
  obtain ⟨g1, g2, g3, g4⟩ := hR
  subst g2; subst g3
  obtain ⟨T, H, N, hn, h1, h2, h3, h4, h5⟩ := id h
  have key : ∀ r, r = wrI T B n (-4) → wp_X12_wrong (nI n) aw st tape (fun r' aw' st' => r = r' ∧ RI d aw' st' le pl hs hc kn ∧ KS st st' aw aw') := fun r hr => by
    unfold wp_X12_wrong
    refine aw_use h (fun T' H' N' hn' st' a1 a2 a3 a4 a5 a6 a7 => sp_X12_wrongPlace g1 (fun k hk => ⟨(g4 k hk).1, (g4 k hk).2.2⟩) a1.1 a4 ⟨?_, a6, a7⟩)
    rw [hr]; exact wrI_same (XI_same h3 a3 h1.1 a1.1) n _
  have hl := fnd_le (bad T B) n
  unfold wp_X11_wrong
  refine sp_X9_firstWrong g1 (fun k hk => ⟨(g4 k hk).1, (g4 k hk).2.1⟩) h3.2.1 ?_
  unfold wrI fwr at *
  by_cases q : fnd (bad T B) n < n
  · rw [if_pos q]
    exact ⟨fun _ => key _ (by rw [if_pos q]), fun z => absurd (nI_nn (by omega)) z⟩
  · rw [if_neg q]
    cases w : blk B n
    · rw [if_neg (by decide)]
      exact ⟨fun z => absurd z (by decide), fun _ => key _ (by rw [if_neg q, w]; rfl)⟩
    · rw [if_pos rfl]
      exact ⟨fun _ => key _ (by rw [if_neg q, w]; rfl), fun z => absurd (nI_nn (by omega)) z⟩
end
