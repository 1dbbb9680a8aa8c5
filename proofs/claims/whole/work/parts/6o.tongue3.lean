section
variable {d : PD} {T H N : Nat → Nat} {hn : Nat} {aw width size hs : Int32} {ru wo st lens lets wts le pl hc kn of id so be tg : Nat → Int32}
def mnN (d : PD) (X : Nat → Nat) (n : Nat) : Nat := sumN (fun p => ofn d (X p) * (p / 5 + p % 5 + 2)) n
theorem sp_X10_meanBy {X : Nat → Nat} {tb : Nat → Int32} (hof : ∀ l, l < 26 → of l = nI (ofn d l)) (hX : ∀ p, p < 25 → X p < 26 ∧ tb p = nI (97 + X p)) {post : Int32 → Prop} (h : post (nI (mnN d X 25))) : wp_X10_meanBy 25 tb of post := by
  unfold wp_X10_meanBy
  refine fix_0 (fun p => (nI (mnN d X p), nI p)) 25 rfl ?_
  intro K p hp hK
  unfold F_X10_meanBy_4
  dsimp only
  rw [show (Int32.ofNat 25) = nI 25 from rfl, i25, nI_leI (by omega) (by omega)]
  refine ⟨fun c => ?_, fun c => ⟨fun q => absurd q c, fun _ => ⟨(vin_n (by omega)).mpr (by omega), ?_⟩⟩⟩
  · have : p = 25 := by omega
    subst this; exact h
  · have hx := hX p (by omega)
    rw [nI_clamp (by omega), hx.2, kn_form (by omega)]
    refine sp_X10_oftenOf hx.1 ?_
    rw [hof _ hx.1, pk_mul, nI_add, nI_1]
    exact hK (by omega)
theorem B_mean {X : Nat → Nat} {z0 z2 : Int32} {p : Nat} (hp : p < 25) (htg : ∀ l, l < 26 → tg l = nI (ofn d l)) (hx : X p < 26) (hz : z0 = nI (mnN d X p)) (hz2 : z2 = nI (X p)) {K : (Int32 × Int32) → Prop} (h : K (nI (mnN d X (p + 1)), nI (p + 1))) : B_X12_mean_54 (nI p) tg z0 z2 K := by
  subst hz; subst hz2
  unfold B_X12_mean_54 wp_X12_knocksAt
  rw [kn_form hp]
  dsimp only
  rw [nI_clamp (by omega), htg _ hx, pk_mul, nI_add, nI_1]
  exact ⟨(vin_n (by omega)).mpr hx, h⟩
theorem sp_X12_meanM {X : Nat → Nat} {x : Int32} (htg : ∀ l, l < 26 → tg l = nI (ofn d l)) (hX : ∀ p, p < 25 → X p < 26 ∧ (if x = 0 then st p else be p) = nI (X p)) {post : Int32 → Int32 → (Nat → Int32) → (Nat → Int32) → (Nat → Int32) → Prop} (h : post (nI (mnN d X 25)) 1 st be tg) : ∃ n, fixN (F_X12_mean_24 x 1 st be tg post) n (0, 0) := by
  refine fix_0 (fun p => (nI (mnN d X p), nI p)) 25 rfl ?_
  intro K p hp hK
  unfold F_X12_mean_24
  dsimp only
  rw [i25, nI_leI (by omega) (by omega)]
  refine ⟨fun c => ?_, fun c => ⟨fun q => ⟨(vin_n (by omega)).mpr (by omega), ?_⟩, fun q => ⟨(vin_n (by omega)).mpr (by omega), ?_⟩⟩⟩
  · have : p = 25 := by omega
    subst this; exact h
  · have hx := hX p (by omega)
    rw [if_neg q] at hx
    rw [nI_clamp (by omega)]
    exact B_mean (by omega) htg hx.1 rfl hx.2 (hK (by omega))
  · have hx := hX p (by omega)
    rw [if_pos q] at hx
    rw [nI_clamp (by omega)]
    exact B_mean (by omega) htg hx.1 rfl hx.2 (hK (by omega))
theorem sim_mean (hd : okP d) (hX : XW d width size lens lets wts) (hM : MW d ru wo) (h : RI d aw st le pl hs hc kn) (x : Int32) : wp_X11_mean 10 80 of width size id so pl lens lets wts le x (fun r _ _ _ => wp_X12_mean aw st ru be tg wo x (fun r' aw' st' _ _ => r = r' ∧ RI d aw' st' le pl hs hc kn ∧ KS st st' aw aw')) := by
  obtain ⟨T, H, N, hn, h1, h2, h3, h4, h5⟩ := h
  have ez : vp_in x 2 ↔ 0 ≤ x ∧ x < 2 := vin_I (by decide)
  have main : vp_in x 2 → B_X11_mean_11 10 80 width size pl lens lets wts le x of id so (fun r _ _ _ => wp_X12_mean aw st ru be tg wo x (fun r' aw' st' _ _ => r = r' ∧ RI d aw' st' le pl hs hc kn ∧ KS st st' aw aw')) := fun c => by
    unfold B_X11_mean_11
    refine sp_X10_learn hd hX h1.1 h3.2.1 (fun of' id' so' S f1 f2 f3 => ⟨fun q => ?_, fun q => ?_⟩)
    · refine sp_X10_meanBy (X := fun p => S (chq p)) f2 (fun p hp => ⟨(f1.1 _ (chp_q p hp).2).1, f3 p hp⟩) ?_
      unfold wp_X12_mean
      refine aw2 h1 h2 h3 h4 h5 (fun st' m1 m2 m3 m4 m5 => sp_in0 (b := 1) (n := 2) (by decide) le_1 (fun q => absurd c q) (fun _ => ⟨fun _ => sp_X12_layBest hd hM m1 h1.1 f1 (fun be' tg' g1 g2 => ?_), fun q => absurd q (by decide)⟩))
      exact sp_X12_meanM g1 (fun p hp => ⟨(f1.1 _ (chp_q p hp).2).1, by rw [if_neg q]; exact g2 p hp⟩) ⟨rfl, m4, m5⟩
    · refine sp_X10_meanBy (X := T) f2 (fun p hp => ⟨h1.1.1 p hp, h3.1 p hp⟩) ?_
      unfold wp_X12_mean
      refine aw2 h1 h2 h3 h4 h5 (fun st' m1 m2 m3 m4 m5 => sp_in0 (b := 1) (n := 2) (by decide) le_1 (fun q => absurd c q) (fun _ => ⟨fun _ => sp_X12_layBest hd hM m1 h1.1 f1 (fun be' tg' g1 g2 => ?_), fun q => absurd q (by decide)⟩))
      exact sp_X12_meanM g1 (fun p hp => ⟨h1.1.1 p hp, by rw [if_pos q]; have := m1 p hp; rw [Nat.zero_add] at this; exact this⟩) ⟨rfl, m4, m5⟩
  unfold wp_X11_mean
  refine ⟨fun q => main (by rw [ez, q]; decide), fun q => ⟨fun q2 => main (by rw [ez, q2]; decide), fun q2 => ?_⟩⟩
  have c : ¬ vp_in x 2 := by rw [ez]; grind
  unfold wp_X12_mean
  exact aw2 h1 h2 h3 h4 h5 (fun st' m1 m2 m3 m4 m5 => sp_in0 (b := 1) (n := 2) (by decide) le_1 (fun _ => ⟨fun q => absurd rfl q, fun _ => ⟨rfl, m4, m5⟩⟩) (fun q => absurd q c))
theorem sim_best (hd : okP d) (hX : XW d width size lens lets wts) (hM : MW d ru wo) (h : RI d aw st le pl hs hc kn) (x : Int32) : wp_X11_best 10 80 of width size id so pl lens lets wts x (fun r _ _ _ => wp_X12_best aw st ru be tg wo x (fun r' aw' st' _ _ => r = r' ∧ RI d aw' st' le pl hs hc kn ∧ KS st st' aw aw')) := by
  obtain ⟨T, H, N, hn, h1, h2, h3, h4, h5⟩ := h
  unfold wp_X11_best
  refine sp_X11_isPlace (fun c => ⟨fun q => absurd rfl q, fun _ => ?_⟩) (fun c => ⟨fun _ => sp_X10_learn hd hX h1.1 h3.2.1 (fun of' id' so' S f1 f2 f3 => ⟨c, ?_⟩), fun q => absurd q (by decide)⟩)
  · unfold wp_X12_best
    exact aw2 h1 h2 h3 h4 h5 (fun st' m1 m2 m3 m4 m5 => sp_X12_isPlace (fun _ => ⟨fun q => absurd rfl q, fun _ => ⟨rfl, m4, m5⟩⟩) (fun q => absurd q c))
  · unfold wp_X12_best
    refine aw2 h1 h2 h3 h4 h5 (fun st' m1 m2 m3 m4 m5 => sp_X12_isPlace (fun q => absurd c q) (fun _ => ⟨fun _ => sp_X12_layBest hd hM m1 h1.1 f1 (fun be' tg' g1 g2 => ⟨c, ?_⟩), fun q => absurd q (by decide)⟩))
    obtain ⟨p, hp, rfl⟩ := vin_ex (by decide) c
    rw [nI_clamp (by omega), f3 p hp, g2 p hp, i97, nI_add, Nat.add_comm 97]
    exact ⟨rfl, m4, m5⟩
/-- as the best table has it -/
def TS (S : Nat → Nat) (p : Nat) : Nat := S (chq p)
theorem TS_ok {f S : Nat → Nat} (hS : okS f T S 25 26) : okT (TS S) := by
  refine ⟨fun p hp => (hS.1 _ (chp_q p hp).2).1, fun p q hp hq e => ?_⟩
  have a := chp_q p hp
  have b := chp_q q hq
  have e : S (chq p) = S (chq q) := e
  have : chq p = chq q := by
    rcases Nat.lt_trichotomy (chq p) (chq q) with z | z | z
    · have := hS.2.1 _ _ z b.2; rw [e] at this; unfold prc at this; omega
    · exact z
    · have := hS.2.1 _ _ z a.2; rw [e] at this; unfold prc at this; omega
  rw [← a.1, ← b.1, this]
theorem TS_in {f S : Nat → Nat} (hS : okS f T S 25 26) {l : Nat} (hl : l < 26) : pidx (TS S) l < 25 ↔ pidx T l < 25 := by
  constructor
  · intro h
    have e := pidx_T h
    have := (hS.1 _ (chp_q _ h).2).2
    rw [← e]; exact this
  · intro h
    obtain ⟨i, hi, e⟩ := hS.2.2 l hl h
    have hc := chq_p i hi
    have : TS S (chp i) = l := by unfold TS; rw [hc.1]; exact e
    rw [← this, pidx_of (TS_ok hS) hc.2]; exact hc.2
def dfN (X Y : Nat → Nat) : Nat → Nat := sumN (fun p => if X p = Y p then 0 else 1)
theorem sim_adopt (hd : okP d) (hX : XW d width size lens lets wts) (hM : MW d ru wo) (h : RI d aw st le pl hs hc kn) : wp_X11_adopt 10 80 of width size id so pl lens lets wts le (fun r _ _ _ pl' le' => wp_X12_adopt aw st ru be tg wo (fun r' aw' st' _ _ => r = r' ∧ RI d aw' st' le' pl' hs hc kn ∧ KS st st' aw aw')) := by
  obtain ⟨T, H, N, hn, h1, h2, h3, h4, h5⟩ := h
  unfold wp_X11_adopt
  refine sp_X10_learn hd hX h1.1 h3.2.1 (fun of' id' so' S f1 f2 f3 => ?_)
  have hTS := TS_ok f1
  have f3 : ∀ p, p < 25 → id' p = nI (97 + TS S p) := f3
  refine fix_0 (fun p => (nI (dfN T (TS S) p), nI p)) 25 rfl ?_
  intro K p hp hK
  unfold F_X11_adopt_19
  dsimp only
  rw [i25, nI_leI (by omega) (by omega)]
  refine ⟨fun c => ?_, fun c => ?_⟩
  · have : p = 25 := by omega
    subst this
    refine fix_iv (fun q v => v.1 = nI q ∧ (∀ l, l < 26 → v.2.1 l = if pidx (TS S) l < q then nI (pidx (TS S) l) else pl l) ∧ (∀ p, p < q → v.2.2 p = nI (97 + TS S p))) 25 (fun K' q v hq hI hK' => ?_) 0 (by omega) ⟨rfl, fun l hl => by rw [if_neg (by omega)], fun p hp => absurd hp (by omega)⟩
    obtain ⟨x2, pl1, le1⟩ := v
    obtain ⟨e1, e2, e3⟩ := hI
    dsimp only at e1 e2 e3
    subst e1
    unfold F_X11_adopt_57
    dsimp only
    rw [i25, nI_leI (by omega) (by omega)]
    refine ⟨fun z => ?_, fun z => ⟨(vin_n (by omega)).mpr (by omega), ?_⟩⟩
    · have : q = 25 := by omega
      subst this
      have h3' : XI (TS S) H N hn le1 pl1 hc kn hs := by
        refine ⟨fun p hp => e3 p hp, fun l hl => ?_, h3.2.2.1, h3.2.2.2.1, h3.2.2.2.2⟩
        rw [e2 l hl]
        unfold plX
        split
        · rfl
        · rename_i w; rw [h3.2.1 l hl]; exact plX_out (fun w2 => w ((TS_in f1 hl).mpr w2))
      have h1' : okI (TS S) H N hn := ⟨hTS, h1.2⟩
      have h2' : cov d (TS S) := by
        refine ⟨fun w hw k hk => ?_, fun s hs k hk => ?_, fun s hs k hk => ?_⟩
        · exact (TS_in f1 ((hd.2.2.2.2.2.2.1 w hw).2.2.2.2 k hk)).mpr (h2.1 w hw k hk)
        · exact (TS_in f1 ((hd.2.2.2.2.2.2.2.1 s hs).2.2.2.2.1 k hk)).mpr (h2.2.1 s hs k hk)
        · exact (TS_in f1 ((hd.2.2.2.2.2.2.2.1 s hs).2.2.2.2.2 k hk)).mpr (h2.2.2 s hs k hk)
      unfold wp_X12_adopt
      refine sp_X12_awake h4 (fun st' m1 m2 => sp_X12_layBest hd hM m1 h1.1 f1 (fun be' tg' g1 g2 => ?_))
      have g2 : ∀ p, p < 25 → be' p = nI (TS S p) := g2
      refine fix_iv (fun p v => v.1 = nI (dfN T (TS S) p) ∧ v.2.1 = nI p ∧ (∀ q, q < p → v.2.2 q = nI (TS S q)) ∧ ∀ j, p ≤ j → v.2.2 j = st' j) 25 (fun K2 p v hp hI hK2 => ?_) 0 (by omega) ⟨rfl, rfl, fun q hq => absurd hq (by omega), fun _ _ => rfl⟩
      obtain ⟨x1, x2, s1⟩ := v
      obtain ⟨k1, k2, k3, k4⟩ := hI
      dsimp only at k1 k2 k3 k4
      subst k1; subst k2
      unfold F_X12_adopt_12 B_X12_adopt_39
      dsimp only
      rw [i25, nI_leI (by omega) (by omega)]
      refine ⟨fun w => ?_, fun w => ?_⟩
      · have : p = 25 := by omega
        subst this
        have m3 : MR 0 H N hn s1 := h5.kept h1.2.1 (fun j a b => by rw [k4 j (by omega), m2 j (by omega)])
        have m1' : MT 0 (TS S) s1 := fun p hp => by rw [Nat.zero_add]; exact k3 p hp
        exact ⟨rfl, ⟨TS S, H, N, hn, h1', h2', h3', Or.inl ⟨rfl, m1'⟩, m3⟩, fun j hj => by rw [k4 j (by omega), m2 j (by omega)], fun _ => rfl⟩
      · have hK2 := hK2 (by omega)
        have es : s1 p = nI (T p) := by rw [k4 p (by omega)]; have := m1 p (by omega); rw [Nat.zero_add] at this; exact this
        have b1 := h1.1.1 p (by omega)
        have b2 := hTS.1 p (by omega)
        have vi : vp_in (nI p) 192 := (vin_n (by omega)).mpr (by omega)
        have vi2 : vp_in (nI p) 25 := (vin_n (by omega)).mpr (by omega)
        rw [nI_clamp (by omega), es, g2 p (by omega), nI_eq (by omega) (by omega), show nI p + 1 = nI (p + 1) by rw [nI_1]]
        have key : ∀ y, y = nI (dfN T (TS S) (p + 1)) → K2 (y, nI (p + 1), upd s1 p (nI (TS S p))) := fun y hy => hK2 _ ⟨hy, rfl, fun q hq => by
          dsimp only
          rcases Nat.lt_or_ge q p with z | z
          · rw [pk_un (by omega)]; exact k3 q z
          · have : q = p := by omega
            subst this; rw [pk_us], fun j hj => by dsimp only; rw [pk_un (by omega)]; exact k4 j (by omega)⟩
        refine ⟨vi, vi2, fun z => ⟨vi2, vi, key _ ?_⟩, fun z => ⟨vi2, vi, key _ ?_⟩⟩
        · rw [nI_1]; unfold dfN; rw [sumN, if_neg z]
        · rw [i0, nI_add]; unfold dfN; rw [sumN, if_pos z]
    · have hq := hTS.1 q (by omega)
      rw [nI_clamp (by omega), f3 q (by omega), nI_1]
      refine sp_X2_put (by omega) hq (hK' (by omega) _ ⟨rfl, fun l hl => ?_, fun p hp => ?_⟩)
      · dsimp only
        by_cases w : l = TS S q
        · subst w
          rw [pk_us, pidx_of hTS (by omega), if_pos (by omega)]
        · rw [pk_un w, e2 l hl]
          have : pidx (TS S) l ≠ q := fun e => w (by rw [← e]; exact (pidx_T (by omega)).symm)
          by_cases w2 : pidx (TS S) l < q
          · rw [if_pos w2, if_pos (by omega)]
          · rw [if_neg w2, if_neg (by omega)]
      · dsimp only
        rcases Nat.lt_or_ge p q with w | w
        · rw [pk_un (by omega)]; exact e3 p w
        · have : p = q := by omega
          subst this; rw [pk_us]
  · have hK := hK (by omega)
    have b1 := h1.1.1 p (by omega)
    have b2 := hTS.1 p (by omega)
    rw [nI_clamp (by omega), h3.1 p (by omega), f3 p (by omega), nI_eq (by omega) (by omega), nI_1]
    refine ⟨(vin_n (by omega)).mpr (by omega), (vin_n (by omega)).mpr (by omega), fun z => ?_, fun z => ?_⟩
    · have e : dfN T (TS S) (p + 1) = dfN T (TS S) p := by unfold dfN; rw [sumN, if_pos (by omega)]; rfl
      rw [e] at hK; exact hK
    · have e : dfN T (TS S) (p + 1) = dfN T (TS S) p + 1 := by unfold dfN; rw [sumN, if_neg (by omega)]
      rw [e] at hK; rw [nI_1]; exact hK
end
