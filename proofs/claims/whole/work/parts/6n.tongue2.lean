/-! bits of a choice -/
theorem bit_or {g : Nat → Nat} {l : Nat} : ∀ n, orN (fun j => 2 ^ g j) n / 2 ^ l % 2 = 0 ↔ ∀ j, j < n → g j ≠ l
  | 0 => by
    refine ⟨fun _ j hj => absurd hj (Nat.not_lt_zero j), fun _ => ?_⟩
    show 0 / 2 ^ l % 2 = 0
    rw [Nat.zero_div]
  | n + 1 => by
    have ih := bit_or (g := g) (l := l) n
    have tb : ∀ x : Nat, x / 2 ^ l % 2 = 0 ↔ x.testBit l = false := fun x => by
      rw [Nat.testBit_eq_decide_div_mod_eq]; simp only [decide_eq_false_iff_not]; omega
    rw [tb] at ih ⊢
    have e : orN (fun j => 2 ^ g j) (n + 1) = orN (fun j => 2 ^ g j) n ||| 2 ^ g n := rfl
    rw [e, Nat.testBit_or, Bool.or_eq_false_iff, ih, Nat.testBit_two_pow]
    simp only [decide_eq_false_iff_not]
    constructor
    · rintro ⟨a, b⟩ j hj
      rcases Nat.lt_or_ge j n with z | z
      · exact a j z
      · rw [show j = n by omega]; exact b
    · intro a
      exact ⟨fun j hj => a j (by omega), a n (by omega)⟩
theorem bit_I {n k : Nat} (hn : n < 2 ^ 31) (hk : k < 32) : ((nI n >>> (nI k &&& 31)) &&& 1 : Int32) = 0 ↔ n / 2 ^ k % 2 = 0 := by
  rw [pk_shrN hn (nI k &&& 31) k (s_l k (by omega)), pk_andN (n := n / 2 ^ k) (Nat.lt_of_le_of_lt (Nat.div_le_self _ _) (by omega)) (m := 1) 1 rfl, i0, nI_eq (by omega) (by omega)]
/-! to pick the first in order -/
def pik (av : Nat → Prop) (f : Nat → Nat) (l : Nat) (x : Int32) : Prop := (x = -4 ∧ ∀ l', l' < l → ¬ av l') ∨ ∃ b, x = nI b ∧ av b ∧ b < l ∧ ∀ l', l' < l → av l' → l' ≠ b → prc f b l'
section
variable {av : Nat → Prop} {f : Nat → Nat} {l : Nat} {x : Int32}
theorem pik_0 : pik av f 0 (-4) := Or.inl ⟨rfl, fun l' h => absurd h (Nat.not_lt_zero l')⟩
theorem pik_skip (h : pik av f l x) (hn : ¬ av l) : pik av f (l + 1) x := by
  have up : ∀ l', l' < l + 1 → av l' → l' < l := fun l' h1 h2 => by
    rcases Nat.lt_or_ge l' l with z | z
    · exact z
    · rw [show l' = l by omega] at h2; exact absurd h2 hn
  rcases h with ⟨e, h⟩ | ⟨b, e, h1, h2, h3⟩
  · exact Or.inl ⟨e, fun l' hl' z => h l' (up l' hl' z) z⟩
  · exact Or.inr ⟨b, e, h1, by omega, fun l' hl' z => h3 l' (up l' hl' z) z⟩
theorem pik_new (hl : l < 1000) (h : pik av f l (-4)) (ha : av l) : pik av f (l + 1) (nI l) := by
  rcases h with ⟨e, h⟩ | ⟨b, e, h1, h2, h3⟩
  · refine Or.inr ⟨l, rfl, ha, by omega, fun l' hl' z ne => absurd z (h l' (by omega))⟩
  · exact absurd e.symm (nI_ne_ng (b := 4) (by omega) (by decide) (by decide))
theorem pik_b (h : pik av f l x) (hx : ¬ x = -4) : ∃ b, x = nI b ∧ av b ∧ b < l ∧ ∀ l', l' < l → av l' → l' ≠ b → prc f b l' := by
  rcases h with ⟨e, h⟩ | h
  · exact absurd e hx
  · exact h
theorem pik_keep {b : Nat} (h1 : av b) (h2 : b < l) (h3 : ∀ l', l' < l → av l' → l' ≠ b → prc f b l') (hf : f l ≤ f b) : pik av f (l + 1) (nI b) := by
  refine Or.inr ⟨b, rfl, h1, by omega, fun l' hl' z ne => ?_⟩
  rcases Nat.lt_or_ge l' l with q | q
  · exact h3 l' q z ne
  · rw [show l' = l by omega]; unfold prc; omega
theorem pik_take {b : Nat} (ha : av l) (h3 : ∀ l', l' < l → av l' → l' ≠ b → prc f b l') (hf : f b < f l) : pik av f (l + 1) (nI l) := by
  refine Or.inr ⟨l, rfl, ha, by omega, fun l' hl' z ne => ?_⟩
  by_cases q : l' = b
  · rw [q]; exact Or.inl hf
  · have := h3 l' (by omega) z q; unfold prc at *; omega
theorem pik_end {S : Nat → Nat} {m i : Nat} (h : pik av f l x) (hi : i < m) (hS : ∀ j, j < m → S j < l) (hs : ∀ a b, a < b → b < m → prc f (S a) (S b)) (hav : ∀ l', l' < l → (av l' ↔ ∃ j, i ≤ j ∧ j < m ∧ S j = l')) : x = nI (S i) := by
  have ai : av (S i) := (hav _ (hS i hi)).mpr ⟨i, Nat.le_refl _, hi, rfl⟩
  rcases h with ⟨e, h⟩ | ⟨b, e, h1, h2, h3⟩
  · exact absurd ai (h _ (hS i hi))
  · obtain ⟨j, j1, j2, j3⟩ := (hav b h2).mp h1
    by_cases q : j = i
    · rw [e, ← j3, q]
    · have p1 := hs i j (by omega) j2
      have p2 := h3 (S i) (hS i hi) ai (fun z => by rw [j3, ← z] at p1; unfold prc at p1; omega)
      rw [j3] at p1
      unfold prc at p1 p2; omega
end
def fpl (p : Nat) : Nat := 100 - (p / 5 + p % 5)
theorem chp_s : ∀ b, b < 25 → ∀ a, a < b → prc fpl (chp a) (chp b) := by unfold prc; decide
section
variable {d : PD} {T S : Nat → Nat} {ru wo st be tg : Nat → Int32}
theorem orS_lt {S : Nat → Nat} {n : Nat} (hS : ∀ j, j < n → S j < 26) : orN (fun j => 2 ^ S j) n < 2 ^ 26 := orN_lt n (fun i hi => pow_lt (hS i hi))
theorem sp_X12_layBest (hd : okP d) (hM : MW d ru wo) (hst : MT 0 T st) (hT : okT T) (hS : okS (ofn d) T S 25 26) {post : (Nat → Int32) → (Nat → Int32) → Prop} (h : ∀ be' tg', (∀ l, l < 26 → tg' l = nI (ofn d l)) → (∀ p, p < 25 → be' p = nI (S (chq p))) → post be' tg') : wp_X12_layBest ru be st tg wo post := by
  have h10 := hd.1
  have v5 : vp_in 5 8 := by unfold vp_in; decide
  unfold wp_X12_layBest
  refine fix_iv (fun i v => v.1 = nI i ∧ ∀ j, j < i → v.2 j = nI 0) 26 (fun K i v hi hI hK => ?_) 0 (by omega) ⟨rfl, fun j hj => absurd hj (Nat.not_lt_zero j)⟩
  obtain ⟨x1, t1⟩ := v
  obtain ⟨e1, e2⟩ := hI
  dsimp only at e1 e2
  subst e1
  unfold F_X12_layBest_2
  dsimp only
  rw [i26, nI_leI (by omega) (by omega)]
  refine ⟨fun c => ?_, fun c => ⟨(vin_n (by omega)).mpr (by omega), ?_⟩⟩
  · have : i = 26 := by omega
    subst this
    refine fix_iv (fun w v => v.1 = nI w ∧ ∀ l, l < 26 → v.2 l = nI (tgw d w l)) (nw d) (fun K w v hw hI hK => ?_) 0 (by omega) ⟨rfl, e2⟩
    obtain ⟨x3, o1⟩ := v
    obtain ⟨e1, e2⟩ := hI
    dsimp only at e1 e2
    subst e1
    unfold F_X12_layBest_23
    dsimp only
    rw [show (5 : Int32).toNatClampNeg = 5 from rfl, hM.1, nI_leI (by omega) (by omega)]
    refine ⟨v5, fun c => ?_, fun c => ?_⟩
    · have : w = nw d := by omega
      subst this
      have e2 : ∀ l, l < 26 → o1 l = nI (ofn d l) := e2
      refine fix_iv (fun i v => v.1 = nI (orN (fun j => 2 ^ S j) i) ∧ v.2.1 = nI (orN (fun j => 2 ^ chp j) i) ∧ v.2.2.1 = nI i ∧ ∀ p, p < 25 → chq p < i → v.2.2.2 p = nI (S (chq p))) 25 (fun K i v hi hI hK => ?_) 0 (by omega) ⟨rfl, rfl, rfl, fun p _ hp => absurd hp (Nat.not_lt_zero _)⟩
      obtain ⟨x1, x2, x3, b1⟩ := v
      obtain ⟨f1, f2, f3, f4⟩ := hI
      dsimp only at f1 f2 f3 f4
      subst f1; subst f2; subst f3
      unfold F_X12_layBest_93
      dsimp only
      rw [i25, nI_leI (by omega) (by omega)]
      refine ⟨fun q => h _ _ e2 (fun p hp => f4 p hp (by have := (chp_q p hp).2; omega)), fun q => ?_⟩
      have o1lt := orS_lt (S := S) (n := i) (fun j hj => (hS.1 j (by omega)).1)
      have o2lt := orS_lt (S := chp) (n := i) (fun j hj => by have := (chq_p j (by omega)).2; omega)
      -- the letter
      refine fix_iv (fun l v => v.2 = nI l ∧ pik (fun l => pidx T l < 25 ∧ ∀ j, j < i → S j ≠ l) (ofn d) l v.1) 26 (fun K1 l v hl hI hK1 => ?_) 0 (by omega) ⟨rfl, pik_0⟩
      obtain ⟨x4, x6⟩ := v
      obtain ⟨g1, g2⟩ := hI
      dsimp only at g1 g2
      subst g1
      unfold F_X12_layBest_110 B_X12_layBest_141 B_X12_layBest_142
      dsimp only
      rw [i26, nI_leI (by omega) (by omega)]
      refine ⟨fun z => ?_, fun z => sp_X12_placeOf (T := T) (fun p hp => by have := hst p hp; rw [Nat.zero_add] at this; exact this) hT (by omega) ?_⟩
      · have : l = 26 := by omega
        subst this
        have ex : x4 = nI (S i) := pik_end g2 (show i < 25 by omega) (fun j hj => (hS.1 j hj).1) hS.2.1 (fun l' hl' => by
          constructor
          · rintro ⟨a, b⟩
            obtain ⟨j, hj, e⟩ := hS.2.2 l' hl' a
            exact ⟨j, Nat.le_of_not_lt (fun q => b j q e), hj, e⟩
          · rintro ⟨j, j1, j2, j3⟩
            refine ⟨by rw [← j3]; exact (hS.1 j j2).2, fun j' hj' e => ?_⟩
            have := hS.2.1 j' j (by omega) j2
            rw [e, j3] at this; unfold prc at this; omega)
        subst ex
        have hSi := (hS.1 i (by omega)).1
        -- the place
        refine fix_iv (fun p v => v.2 = nI p ∧ pik (fun p => ∀ j, j < i → chp j ≠ p) fpl p v.1) 25 (fun K2 p v hp hI hK2 => ?_) 0 (by omega) ⟨rfl, pik_0⟩
        obtain ⟨x5, x6⟩ := v
        obtain ⟨k1, k2⟩ := hI
        dsimp only at k1 k2
        subst k1
        unfold F_X12_layBest_191 B_X12_layBest_212
        dsimp only
        rw [i25, nI_leI (by omega) (by omega)]
        refine ⟨fun z2 => ?_, fun z2 => ?_⟩
        · have : p = 25 := by omega
          subst this
          have ex : x5 = nI (chp i) := pik_end k2 (show i < 25 by omega) (fun j hj => (chq_p j hj).2) (fun a b hab hb => chp_s b hb a hab) (fun p hp => by
            have hq := chp_q p hp
            constructor
            · intro a; exact ⟨chq p, Nat.le_of_not_lt (fun q => a _ q hq.1), hq.2, hq.1⟩
            · rintro ⟨j, j1, j2, j3⟩ j' hj' e
              have a := (chq_p j j2).1; have b := (chq_p j' (by omega)).1
              rw [j3] at a; rw [e] at b; omega)
          subst ex
          have hc := chq_p i (by omega)
          refine ⟨(vin_n (by omega)).mpr (by omega), ?_⟩
          rw [one_shl (by omega), one_shl (by omega), nI_or, nI_or, nI_clamp (by omega), nI_1]
          refine hK (by omega) _ ⟨rfl, rfl, rfl, fun p hp hpi => ?_⟩
          dsimp only
          by_cases z3 : p = chp i
          · subst z3; rw [pk_us, hc.1]
          · rw [pk_un z3]
            refine f4 p hp ?_
            have : chq p ≠ i := fun e => z3 (by rw [← e]; exact (chp_q p hp).1.symm)
            omega
        · have hK2 := hK2 (by omega)
          rw [bit_I (by omega) (by omega), bit_or, nI_1]
          refine ⟨fun w0 => ⟨fun _ => hK2 _ ⟨rfl, pik_skip k2 w0⟩, fun q => absurd rfl q⟩, fun w0 => ⟨fun q => absurd q (by decide), fun _ => ⟨fun w1 => hK2 _ ⟨rfl, pik_new (by omega) (by rw [w1] at k2; exact k2) w0⟩, fun w1 => ?_⟩⟩⟩
          obtain ⟨b, rfl, h1, h2, h3⟩ := pik_b k2 w1
          unfold wp_X12_knocksAt
          rw [kn_form (show p < 25 by omega), kn_form (show b < 25 by omega)]; dsimp only; rw [nI_leI (by omega) (by omega)]
          exact ⟨fun w2 => hK2 _ ⟨rfl, pik_keep h1 h2 h3 (by unfold fpl; omega)⟩, fun w2 => hK2 _ ⟨rfl, pik_take w0 h3 (by unfold fpl; omega)⟩⟩
      · have hK1 := hK1 (by omega)
        have ep : plc T l = -4 ↔ ¬ pidx T l < 25 := by
          unfold plc; split
          · rename_i q; exact ⟨fun e => absurd e (nI_ne_ng (b := 4) (by omega) (by decide) (by decide)), fun e => absurd q e⟩
          · rename_i q; exact ⟨fun _ => q, fun _ => rfl⟩
        rw [ep, bit_I (by omega) (by omega), bit_or, nI_1]
        refine ⟨fun w0 => ⟨fun _ => hK1 _ ⟨rfl, pik_skip g2 (fun a => w0 a.1)⟩, fun q => absurd rfl q⟩, fun w0 => ⟨fun w1 => ⟨fun _ => hK1 _ ⟨rfl, pik_skip g2 (fun a => w1 a.2)⟩, fun q => absurd rfl q⟩, fun w1 => ⟨fun q => absurd q (by decide), fun _ => ⟨fun w2 => hK1 _ ⟨rfl, pik_new (by omega) (by rw [w2] at g2; exact g2) ⟨Classical.not_not.mp w0, w1⟩⟩, fun w2 => ?_⟩⟩⟩⟩
        obtain ⟨b, rfl, h1, h2, h3⟩ := pik_b g2 w2
        have b1 := ofn_le hd l
        have b2 := ofn_le hd b
        rw [nI_clamp (by omega), nI_clamp (by omega), e2 l (by omega), e2 b (by omega), nI_leI (by omega) (by omega)]
        exact ⟨(vin_n (by omega)).mpr (by omega), (vin_n (by omega)).mpr (by omega), fun w3 => hK1 _ ⟨rfl, pik_keep h1 h2 h3 w3⟩, fun w3 => hK1 _ ⟨rfl, pik_take ⟨Classical.not_not.mp w0, w1⟩ h3 (by omega)⟩⟩
    · have h8 := hd.2.2.2.2.2.2.1 w (by omega)
      refine fix_iv (fun k v => v.1 = nI k ∧ ∀ l, l < 26 → v.2 l = nI (tgk d w (tgw d w) k l)) (wl d w) (fun K' k v hk hI hK' => ?_) 0 (by omega) ⟨rfl, e2⟩
      obtain ⟨x4, o2⟩ := v
      obtain ⟨f1, f2⟩ := hI
      dsimp only at f1 f2
      subst f1
      unfold F_X12_layBest_35
      dsimp only
      refine sp_X12_size hd hM (by omega) ?_
      rw [nI_leI (by omega) (by omega)]
      refine ⟨fun q => ?_, fun q => ?_⟩
      · have : k = wl d w := by omega
        subst this; rw [nI_1]; exact hK (by omega) _ ⟨rfl, f2⟩
      · have hc := h8.2.2.2.2 k (by omega)
        have vc : vp_in (nI (wc d w k)) 26 := (vin_n (by omega)).mpr hc
        rw [i10, i9, pk_mul, nI_add, nI_add, nI_clamp (by omega), nI_clamp (by omega), (hM.2 w (by omega)).2.2 k (by omega), (hM.2 w (by omega)).2.1, nI_clamp (by omega), nI_1]
        refine ⟨(vin_n (by omega)).mpr (by omega), vc, (vin_n (by omega)).mpr (by omega), vc, hK' (by omega) _ ⟨rfl, fun l hl => ?_⟩⟩
        dsimp only
        unfold tgk
        by_cases z : l = wc d w k
        · subst z; rw [pk_us, if_pos rfl, f2 _ hl, nI_add]
        · rw [pk_un z, if_neg z, f2 l hl]; rfl
  · rw [nI_clamp (by omega), nI_1]
    refine hK (by omega) _ ⟨rfl, fun j hj => ?_⟩
    dsimp only
    rcases Nat.lt_or_ge j i with z | z
    · rw [pk_un (by omega)]; exact e2 j z
    · have : j = i := by omega
      subst this; rw [pk_us]; rfl
end
