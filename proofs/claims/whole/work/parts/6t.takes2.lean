section
variable {d : PD} {T : Nat → Nat} {a L : Nat} {c s : Nat → Nat} {lw lz sw sz kk pa ga gu le mo : Int32} {lln llt sln slt by' tp pl st sh ru su : Nat → Int32}
def tmo (d : PD) (k l : Nat) : Nat := k * d 0 4 + l * d 0 5 + (l - 1) * d 0 6
def own (T c : Nat → Nat) (L : Nat) : Nat := sumN (fun k => kn1 T (c k)) L
def ahd (d : PD) (s : Nat → Nat) : Nat := if s 1 = 0 then 0 else 2 * d 0 6
def fwN (d : PD) (T : Nat → Nat) (s : Nat) : Nat := sumN (fun k => kn1 T (sc d s k)) (sl d s)
def tkk (d : PD) (T c : Nat → Nat) (L : Nat) : Nat × Nat × Nat := if fsN d c L < nsh d ∧ fwN d T (fsN d c L) < own T c L then (fwN d T (fsN d c L), sl d (fsN d c L), 1) else (own T c L, L, 0)
def adv (L o ah tm k2 l2 t2 n2 : Nat) (s : Nat → Nat) : Nat → Nat
  | 0 => s 0 + L
  | 1 => s 1 + 1
  | 2 => s 2 + o
  | 3 => s 3 + (ah + tm)
  | 4 => s 4 + k2
  | 5 => s 5 + (ah + t2)
  | _ => s 6 + n2
def adm (d : PD) (T c : Nat → Nat) (L : Nat) (s : Nat → Nat) : Nat → Nat := adv L (own T c L) (ahd d s) (tmo d (own T c L) L) (tkk d T c L).1 (tkk d T c L).2.1 (tmo d (tkk d T c L).1 (tkk d T c L).2.1) (tkk d T c L).2.2 s
theorem own_le (hi : ∀ k, k < L → pidx T (c k) < 25) : own T c L ≤ L * 10 := sumN_le L (fun k hk => kn1_le (hi k hk))
theorem fwN_le (hd : okP d) (hcv : cov d T) {s : Nat} (hs : s < nsh d) : fwN d T s ≤ 30 := by
  have h1 := sumN_le (f := fun k => kn1 T (sc d s k)) (b := 10) (sl d s) (fun k hk => kn1_le (hcv.2.1 s hs k hk))
  have := (hd.2.2.2.2.2.2.2.1 s hs).2.1
  unfold fwN; omega
theorem tm_I {k l : Nat} {x y z : Int32} (hx : x = nI (d 0 4)) (hy : y = nI (d 0 5)) (hz : z = nI (d 0 6)) (hl : 1 ≤ l) : ((nI k * x) + (nI l * y)) + ((nI l - 1) * z) = nI (tmo d k l) := by
  subst hx; subst hy; subst hz
  rw [i1, pk_sub hl, pk_mul, pk_mul, pk_mul, nI_add, nI_add]; rfl
theorem sp_addName (hd : okP d) (hS : XS d gu le mo kk pa ga) (hX : XL d lw lz lln llt sw sz sln slt) (hp : ∀ l, l < 26 → pl l = plX T l) (hcv : cov d T) (ha : a + L ≤ 320) (hL : 1 ≤ L) (hs1 : s 1 < 1000) (hc : ∀ k, k < L → c k < 26 ∧ by' (a + k) = nI (97 + c k) ∧ pidx T (c k) < 25) {post : Int32 → Int32 → Int32 → Int32 → Int32 → Int32 → Int32 → Prop} (h : post (nI (adm d T c L s 0)) (nI (adm d T c L s 1)) (nI (adm d T c L s 2)) (nI (adm d T c L s 3)) (nI (adm d T c L s 4)) (nI (adm d T c L s 5)) (nI (adm d T c L s 6))) : wp_X7_addName 6 48 6 18 (nI (s 0)) (nI (s 1)) (nI (s 2)) (nI (s 3)) (nI (s 4)) (nI (s 5)) (nI (s 6)) kk pa ga lw lz lln llt by' sw sz sln slt pl (nI a) (nI L) post := by
  have h6 := hd.2.1
  have ow := own_le (T := T) (fun k hk => (hc k hk).2.2)
  have core : ∀ ah, ah = ahd d s → B_X7_addName_55 6 48 6 18 kk pa ga lw lz lln llt by' sw sz sln slt pl (nI a) (nI L) (nI (own T c L)) (nI (s 0)) (nI (s 1)) (nI (s 2)) (nI (s 3)) (nI (s 4)) (nI (s 5)) (nI (s 6)) (nI ah) post := fun ah eah => by
    subst eah
    unfold B_X7_addName_55 wp_X7_timeOf
    rw [tm_I hS.2.2.2.1 hS.2.2.2.2.1 hS.2.2.2.2.2 hL]
    dsimp only
    rw [nI_1, nI_add, nI_add, nI_add, nI_add]
    refine sp_firstLike hd hX.1 ha (fun k hk => ⟨(hc k hk).1, (hc k hk).2.1⟩) ?_
    by_cases q : fsN d c L < nsh d
    · rw [if_pos q]
      have fw := fwN_le (T := T) hd hcv q
      have h8 := (hd.2.2.2.2.2.2.2.1 _ q)
      refine ⟨fun _ => sp_X2_knocksOfName hX.2 hp q (fun k hk => ⟨h8.2.2.2.2.1 k hk, hcv.2.1 _ q k hk⟩) ?_, fun z => absurd (nI_nn (by omega)) z⟩
      show B_X7_addName_147 6 kk pa ga sz sln (nI (own T c L)) _ _ _ _ _ _ _ _ _ _ (nI (fwN d T (fsN d c L))) post
      unfold B_X7_addName_147 wp_X7_timeOf
      rw [nI_leI (by omega) (by omega)]
      refine ⟨fun z => ?_, fun z => sp_X4_lengthOf hX.2 q ?_⟩
      · have e : tkk d T c L = (own T c L, L, 0) := if_neg (by omega)
        unfold adm at h; rw [e] at h
        rw [nI_add, nI_add]; exact h
      · have e : tkk d T c L = (fwN d T (fsN d c L), sl d (fsN d c L), 1) := if_pos ⟨q, by omega⟩
        unfold adm at h; rw [e] at h
        rw [tm_I hS.2.2.2.1 hS.2.2.2.2.1 hS.2.2.2.2.2 h8.1]
        dsimp only
        rw [nI_add, nI_add, nI_add, nI_1]; exact h
    · rw [if_neg q]
      refine ⟨fun z => absurd z (by decide), fun _ => ?_⟩
      unfold B_X7_addName_147 wp_X7_timeOf
      refine ⟨fun z => ?_, fun z => absurd (Int32.le_refl _) z⟩
      have e : tkk d T c L = (own T c L, L, 0) := if_neg (fun y => q y.1)
      unfold adm at h; rw [e] at h
      rw [nI_add, nI_add]; exact h
  unfold wp_X7_addName
  refine fix_0 (fun k => (nI (own T c k), nI (a + k))) L rfl ?_
  intro K k hk hK
  unfold F_X7_addName_6
  dsimp only
  rw [nI_add, nI_leI (by omega) (by omega), i0, nI_eq (by omega) (by omega)]
  refine ⟨fun q => ?_, fun q => ⟨(vin_n (by omega)).mpr (by omega), ?_⟩⟩
  · have : k = L := by omega
    subst this
    refine ⟨fun z => ?_, fun z => core 0 (by unfold ahd; rw [if_pos z])⟩
    rw [hS.2.2.2.2.2, i2, pk_mul, ← hS.2.2.2.2.2]
    exact core _ (by unfold ahd; rw [if_neg z])
  · have hk' : k < L := by omega
    rw [nI_clamp (by omega), (hc k hk').2.1]
    refine sp_X2_knocksOf hp (hc k hk').1 (hc k hk').2.2 ?_
    rw [nI_add, nI_1]
    exact hK hk'
theorem sp_B173 (hR : MS d ru) {o ah l2 k2 n2 : Nat} (hL : 1 ≤ L) (hl2 : 1 ≤ l2) {t : Nat → Nat} (hsu : ∀ j, j < 7 → su j = nI (t j)) (ht : ∀ j, j < 6 → t j = s j) (ht6 : t 6 = s 6 + n2) {post : (Nat → Int32) → Prop} (h : ∀ su', (∀ j, j < 7 → su' j = nI (adv L o ah (tmo d o L) k2 l2 (tmo d k2 l2) n2 s j)) → post su') : B_X12_layName_173 ru (nI L) (nI o) (nI ah) (nI l2) (nI k2) su post := by
  have v : ∀ x : Nat, x < 7 → vp_in (nI x) 7 := fun x hx => (vin_n (by omega)).mpr hx
  have w : ∀ x : Nat, x < 8 → vp_in (nI x) 8 := fun x hx => (vin_n (by omega)).mpr hx
  have r2 : ru 2 = nI (d 0 4) := hR.2.2.1
  have r3 : ru 3 = nI (d 0 5) := hR.2.2.2.1
  have r4 : ru 4 = nI (d 0 6) := hR.2.2.2.2.1
  unfold B_X12_layName_173 wp_X12_takesName
  simp only [show (0 : Int32).toNatClampNeg = 0 from rfl, show (1 : Int32).toNatClampNeg = 1 from rfl, show (2 : Int32).toNatClampNeg = 2 from rfl, show (3 : Int32).toNatClampNeg = 3 from rfl, show (4 : Int32).toNatClampNeg = 4 from rfl, show (5 : Int32).toNatClampNeg = 5 from rfl, r2, r3, r4, tm_I (d := d) (k := o) (l := L) rfl rfl rfl hL, tm_I (d := d) (k := k2) (l := l2) rfl rfl rfl hl2]
  refine ⟨v 0 (by omega), v 0 (by omega), v 1 (by omega), v 1 (by omega), v 2 (by omega), v 2 (by omega), v 3 (by omega), w 2 (by omega), w 3 (by omega), w 4 (by omega), v 3 (by omega), v 4 (by omega), v 4 (by omega), v 5 (by omega), w 2 (by omega), w 3 (by omega), w 4 (by omega), v 5 (by omega), h _ (fun j hj => ?_)⟩
  have g := fun j hj => hsu j hj
  have g0 := g 0 (by omega); have g1 := g 1 (by omega); have g2 := g 2 (by omega); have g3 := g 3 (by omega); have g4 := g 4 (by omega); have g5 := g 5 (by omega); have g6 := g 6 (by omega)
  rcases (show j = 0 ∨ j = 1 ∨ j = 2 ∨ j = 3 ∨ j = 4 ∨ j = 5 ∨ j = 6 by omega) with rfl | rfl | rfl | rfl | rfl | rfl | rfl
  · simp (disch := decide) only [pk_us, pk_un]; rw [g0, nI_add, ht 0 (by omega)]; rfl
  · simp (disch := decide) only [pk_us, pk_un]; rw [g1, nI_1, ht 1 (by omega)]; rfl
  · simp (disch := decide) only [pk_us, pk_un]; rw [g2, nI_add, ht 2 (by omega)]; rfl
  · simp (disch := decide) only [pk_us, pk_un]; rw [g3, nI_add, nI_add, ht 3 (by omega)]; rfl
  · simp (disch := decide) only [pk_us, pk_un]; rw [g4, nI_add, ht 4 (by omega)]; rfl
  · simp (disch := decide) only [pk_us, pk_un]; rw [g5, nI_add, nI_add, ht 5 (by omega)]; rfl
  · simp (disch := decide) only [pk_us, pk_un]; rw [g6, ht6]; rfl
theorem sp_layName (hd : okP d) (hR : MS d ru) (hM : MH d sh) (hst : MT 0 T st) (hT : okT T) (hcv : cov d T) (ha : a + L ≤ 320) (hL : 1 ≤ L) (hs1 : s 1 < 1000) (hc : ∀ k, k < L → c k < 26 ∧ tp (a + k) = nI (97 + c k) ∧ pidx T (c k) < 25) (hsu : ∀ j, j < 7 → su j = nI (s j)) {post : (Nat → Int32) → Prop} (h : ∀ su', (∀ j, j < 7 → su' j = nI (adm d T c L s j)) → post su') : wp_X12_layName su ru sh tp st (nI a) (nI (a + L)) post := by
  have h6 := hd.2.1
  have ow := own_le (T := T) (fun k hk => (hc k hk).2.2)
  have v1 : vp_in 1 7 := by unfold vp_in; decide
  have v6 : vp_in 6 7 := by unfold vp_in; decide
  have v4 : vp_in 4 8 := by unfold vp_in; decide
  have r4 : ru 4 = nI (d 0 6) := hR.2.2.2.2.1
  have core : ∀ ah, ah = ahd d s → B_X12_layName_62 ru sh tp st (nI a) (nI (a + L)) (nI L) (nI (own T c L)) su (nI ah) post := fun ah eah => by
    subst eah
    unfold B_X12_layName_62
    refine sp_shortFor hd hR hM ha (fun k hk => ⟨(hc k hk).1, (hc k hk).2.1⟩) ?_
    by_cases q : fsN d c L < nsh d
    · rw [if_pos q]
      have fw := fwN_le (T := T) hd hcv q
      have h8 := (hd.2.2.2.2.2.2.2.1 _ q)
      have hMs := hM _ q
      refine ⟨fun z => absurd z (nI_ne_ng (b := 4) (by omega) (by decide) (by decide)), fun _ => ?_⟩
      refine fix_0 (fun k => (nI (sumN (fun k => kn1 T (sc d (fsN d c L) k)) k), nI k)) (sl d (fsN d c L)) rfl ?_
      intro K k hk hK
      unfold F_X12_layName_92
      dsimp only
      have v3 : vp_in (nI (13 * fsN d c L + 3)) 78 := (vin_n (by omega)).mpr (by omega)
      rw [show (13 : Int32) = nI 13 from rfl, i3, pk_mul, nI_add, nI_add, nI_clamp (by omega), nI_clamp (by omega), hMs.1, nI_leI (by omega) (by omega)]
      refine ⟨v3, fun y => ?_, fun y => ?_⟩
      · have : k = sl d (fsN d c L) := by omega
        subst this
        show (nI (own T c L) ≤ nI (fwN d T (fsN d c L)) → _) ∧ (¬ nI (own T c L) ≤ nI (fwN d T (fsN d c L)) → _)
        rw [nI_leI (by omega) (by omega)]
        refine ⟨fun z => ?_, fun z => ⟨v3, v6, v6, ?_⟩⟩
        · have e : tkk d T c L = (own T c L, L, 0) := if_neg (by omega)
          unfold adm at h; rw [e] at h
          exact sp_B173 hR hL hL hsu (fun _ _ => rfl) rfl h
        · have e : tkk d T c L = (fwN d T (fsN d c L), sl d (fsN d c L), 1) := if_pos ⟨q, by omega⟩
          unfold adm at h; rw [e] at h
          refine sp_B173 hR (t := fun j => if j = 6 then s 6 + 1 else s j) hL h8.1 (fun j hj => ?_) (fun j hj => if_neg (by omega)) (if_pos rfl) h
          show upd su 6 (su 6 + 1) j = nI (if j = 6 then s 6 + 1 else s j)
          by_cases y3 : j = 6
          · rw [if_pos y3, y3, pk_us, hsu 6 (by omega), nI_1]
          · rw [if_neg y3, pk_un y3]; exact hsu j hj
      · have hk' : k < sl d (fsN d c L) := by omega
        rw [hMs.2.2.1 k hk']
        refine ⟨(vin_n (by omega)).mpr (by omega), sp_X12_knocks hst hT (h8.2.2.2.2.1 k hk') (hcv.2.1 _ q k hk') ?_⟩
        rw [nI_add, nI_1]
        exact hK hk'
    · rw [if_neg q]
      refine ⟨fun _ => ?_, fun z => absurd rfl z⟩
      have e : tkk d T c L = (own T c L, L, 0) := if_neg (fun y => q y.1)
      unfold adm at h; rw [e] at h
      exact sp_B173 hR hL hL hsu (fun _ _ => rfl) rfl h
  unfold wp_X12_layName
  rw [show nI (a + L) - nI a = nI L by rw [pk_sub (by omega)]; congr 1; omega]
  refine fix_0 (fun k => (nI (own T c k), nI (a + k))) L rfl ?_
  intro K k hk hK
  unfold F_X12_layName_10
  dsimp only
  rw [show (1 : Int32).toNatClampNeg = 1 from rfl, show (4 : Int32).toNatClampNeg = 4 from rfl, hsu 1 (by omega), r4, i2, pk_mul, i0, nI_leI (by omega) (by omega), nI_leI (by omega) (by omega)]
  refine ⟨fun q => ?_, fun q => ⟨(vin_n (by omega)).mpr (by omega), ?_⟩⟩
  · have : k = L := by omega
    subst this
    exact ⟨v1, fun z => core 0 (by unfold ahd; rw [if_pos (by omega)]), fun z => ⟨v4, core _ (by unfold ahd; rw [if_neg (by omega)])⟩⟩
  · have hk' : k < L := by omega
    rw [nI_clamp (by omega), (hc k hk').2.1, i97, pk_sub (by omega), show 97 + c k - 97 = c k by omega]
    refine sp_X12_knocks hst hT (hc k hk').1 (hc k hk').2.2 ?_
    rw [nI_add, nI_1]
    exact hK hk'
end
