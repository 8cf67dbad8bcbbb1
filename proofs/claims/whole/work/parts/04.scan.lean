/-- the proper span, on both sides -/
theorem ab_pr (x y : Int32) : ((∀ post : Int32 → Prop, post 0 → wpX_isProper post x y) ∧ (∀ (post : Int32 → Prop) (v : SY), post 0 → wpY_proper post v x y)) ∨ ∃ f l : Nat, x = nI f ∧ y = nI l ∧ 1 ≤ l ∧ f + l ≤ 64 ∧ (∀ post : Int32 → Prop, post 1 → wpX_isProper post x y) ∧ (∀ (post : Int32 → Prop) (v : SY), post 1 → wpY_proper post v x y) := by
  rcases ab_tri x 63 (by decide) with h | ⟨h, h1, _, h2⟩ | ⟨f, hf, rfl⟩
  · exact Or.inl ⟨fun post hp => br_t h (br_t rfl hp), fun post v hp => br_t h hp⟩
  · exact Or.inl ⟨fun post hp => br_f h (br_t h2 (br_t rfl hp)), fun post v hp => br_f h (br_t h1 hp)⟩
  · have a0 : ¬ nI f < 0 := nI_pos (by omega)
    have a1 : ¬ (64 : Int32) ≤ nI f := ab_nend (by omega)
    have a2 : ¬ (63 : Int32) < nI f := nI_nlt (a := 63) hf (by decide)
    by_cases hy : y < 1
    · exact Or.inl ⟨fun post hp => br_f a0 (br_f a1 (br_f ab_10 (br_t hy hp))), fun post v hp => br_f a0 (br_f a2 (br_t hy hp))⟩
    · have hy0 : ¬ y < 0 := fun z => hy (Int32.lt_trans z (by decide))
      obtain ⟨l, hl, rfl⟩ := nI_of hy0
      have hl1 : 1 ≤ l := by
        rcases Nat.lt_or_ge l 1 with z | z
        · exact absurd (nI_lt (b := 1) z (by decide)) hy
        · exact z
      have e : (64 : Int32) - nI f = nI (64 - f) := pk_sub (a := 64) (by omega)
      by_cases c : 64 - f < l
      · have c' : (64 : Int32) - nI f < nI l := by rw [e]; exact nI_lt c hl
        exact Or.inl ⟨fun post hp => br_f a0 (br_f a1 (br_f ab_10 (br_f hy (br_t c' hp)))), fun post v hp => br_f a0 (br_f a2 (br_f hy (br_t c' hp)))⟩
      · have c' : ¬ (64 : Int32) - nI f < nI l := by rw [e]; exact nI_nlt (by omega) (by omega)
        exact Or.inr ⟨f, l, rfl, rfl, hl1, by omega, fun post hp => br_f a0 (br_f a1 (br_f ab_10 (br_f hy (br_f c' hp)))), fun post v hp => br_f a0 (br_f a2 (br_f hy (br_f c' hp)))⟩
/-- the page, on both sides -/
theorem ab_pg (x : Int32) : ((∀ post : Int32 → Prop, post 0 → wpX_isPage post x) ∧ (∀ (post : Int32 → Prop) (v : SY), post 0 → wpY_page post v x)) ∨ ∃ p : Nat, p < 64 ∧ x = nI p ∧ (∀ post : Int32 → Prop, post 1 → wpX_isPage post x) ∧ (∀ (post : Int32 → Prop) (v : SY), post 1 → wpY_page post v x) := by
  rcases ab_tri x 63 (by decide) with h | ⟨h, h1, _, h2⟩ | ⟨f, hf, rfl⟩
  · exact Or.inl ⟨fun post hp => br_t h hp, fun post v hp => br_t h hp⟩
  · exact Or.inl ⟨fun post hp => br_f h (br_t h2 hp), fun post v hp => br_f h (br_t h1 hp)⟩
  · have a0 : ¬ nI f < 0 := nI_pos (by omega)
    have a1 : ¬ (64 : Int32) ≤ nI f := ab_nend (by omega)
    have a2 : ¬ (63 : Int32) < nI f := nI_nlt (a := 63) hf (by decide)
    exact Or.inr ⟨f, by omega, rfl, fun post hp => br_f a0 (br_f a1 hp), fun post v hp => br_f a0 (br_f a2 hp)⟩
/-- the first page of an area, in lockstep -/
theorem ab_af {g : Nat → Nat} {a b : Nat → Int32} (o q : Nat → Int32) (H : RX g a) (J : RY g b) (K : OKg g) (w : Int32) : ∀ (d i : Nat) (x y : Int32), i + d = 64 → x + 1 = y → ∃ r : Int32, (r = -3 ∨ ∃ p : Nat, p < 64 ∧ r = nI p) ∧ (∀ post : Int32 → Prop, post r → wX_areaFirst_4 post w a o (d + 1) x (nI i)) ∧ (∀ post : Int32 → Prop, post r → wY_areaFirst_4 post w b q (d + 1) y (nI i)) := by
  intro d
  induction d with
  | zero =>
    intro i x y hi hxy
    exact ⟨-3, Or.inl rfl, fun post hp => br_t (ab_end (by omega) (by omega)) hp, fun post hp => br_t (ab_end (by omega) (by omega)) hp⟩
  | succ d ih =>
    intro i x y hi hxy
    have hi' : i < 64 := by omega
    by_cases s : ab_st g i = true
    · by_cases e : y = w
      · refine ⟨nI i, Or.inr ⟨i, hi', rfl⟩, fun post hp => br_f (ab_nend hi') (ab_stX H K hi' (fun _ => br_f ab_10 (nm_r hxy (br_t e hp))) (fun z => absurd s z)), fun post hp => br_f (ab_nend hi') (ab_stY J K hi' (fun _ => br_f ab_10 (br_t e hp)) (fun z => absurd s z))⟩
      · obtain ⟨r, hr, hX, hY⟩ := ih (i + 1) y (y + 1) (by omega) rfl
        refine ⟨r, hr, fun post hp => br_f (ab_nend hi') (ab_stX H K hi' (fun _ => br_f ab_10 (nm_r hxy (br_f e (nm_r (nI_1 i) (hX post hp))))) (fun z => absurd s z)), fun post hp => br_f (ab_nend hi') (ab_stY J K hi' (fun _ => br_f ab_10 (br_f e (nm_e (nm_r (nI_1 i) (hY post hp))))) (fun z => absurd s z))⟩
    · obtain ⟨r, hr, hX, hY⟩ := ih (i + 1) x y (by omega) hxy
      exact ⟨r, hr, fun post hp => br_f (ab_nend hi') (ab_stX H K hi' (fun z => absurd z s) (fun _ => br_t rfl (nm_r (nI_1 i) (hX post hp)))), fun post hp => br_f (ab_nend hi') (ab_stY J K hi' (fun z => absurd z s) (fun _ => br_t rfl (nm_r (nI_1 i) (hY post hp))))⟩
theorem ab_first {g : Nat → Nat} {a b : Nat → Int32} (o q : Nat → Int32) (H : RX g a) (J : RY g b) (K : OKg g) (w : Int32) : ∃ r : Int32, (r = -3 ∨ ∃ p : Nat, p < 64 ∧ r = nI p) ∧ (∀ post : Int32 → Prop, post r → wpX_areaFirst post (a, o) w) ∧ (∀ post : Int32 → Prop, post r → wpY_areaFirst post (b, q) w) := by
  obtain ⟨r, hr, hX, hY⟩ := ab_af o q H J K w 64 0 (-1) 0 rfl rfl
  exact ⟨r, hr, fun post hp => ⟨64 + 1, hX post hp⟩, fun post hp => ⟨64 + 1, hY post hp⟩⟩
/-- the end of an area, in lockstep -/
theorem ab_ln {g : Nat → Nat} {a b : Nat → Int32} (o q : Nat → Int32) (H : RX g a) (J : RY g b) (K : OKg g) {p : Nat} (hp' : p < 64) : ∀ d i : Nat, i + d = 64 → ∃ r : Int32, (∀ post : Int32 → Prop, post r → wX_areaLength_19 post (nI p) a o (d + 1) (nI i)) ∧ (∀ post : Int32 → Prop, post r → wY_areaLength_17 post (nI p) b q (d + 1) (nI i)) := by
  have p0 : (0 : Int32) ≤ nI p := nI_pos' (by omega)
  intro d
  induction d with
  | zero =>
    intro i hi
    have h : (64 : Int32) ≤ nI i := ab_end (by omega) (by omega)
    exact ⟨nI i - nI p, fun post hp => br_t h hp, fun post hp => br_t h (br_t p0 hp)⟩
  | succ d ih =>
    intro i hi
    have hi' : i < 64 := by omega
    by_cases e : g i = g p
    · obtain ⟨r, hX, hY⟩ := ih (i + 1) (by omega)
      exact ⟨r, fun post hp => br_f (ab_nend hi') ⟨ab_in hi', ab_in hp', br_t ((ab_xE H K hi' hp').mpr e) (nm_r (nI_1 i) (hX post hp))⟩, fun post hp => br_f (ab_nend hi') ⟨ab_in hi', ab_in hp', br_t ((ab_yE J K hi' hp').mpr e) (nm_r (nI_1 i) (hY post hp))⟩⟩
    · exact ⟨nI i - nI p, fun post hp => br_f (ab_nend hi') ⟨ab_in hi', ab_in hp', br_f (fun z => e ((ab_xE H K hi' hp').mp z)) hp⟩, fun post hp => br_f (ab_nend hi') ⟨ab_in hi', ab_in hp', br_f (fun z => e ((ab_yE J K hi' hp').mp z)) (br_t p0 hp)⟩⟩
/-- the longest free span, in lockstep -/
theorem ab_lf {g : Nat → Nat} {a b : Nat → Int32} (o q : Nat → Int32) (H : RX g a) (J : RY g b) (K : OKg g) : ∀ (d i : Nat) (x y : Int32), i + d = 64 → ∃ r : Int32, (∀ post : Int32 → Prop, post r → wX_longestFree_6 post a o (d + 1) x y (nI i)) ∧ (∀ post : Int32 → Prop, post r → wY_longestFree_6 post b q (d + 1) x y (nI i)) := by
  intro d
  induction d with
  | zero =>
    intro i x y hi
    have h : (64 : Int32) ≤ nI i := ab_end (by omega) (by omega)
    exact ⟨x, fun post hp => br_t h hp, fun post hp => br_t h hp⟩
  | succ d ih =>
    intro i x y hi
    have hi' : i < 64 := by omega
    by_cases z : g i = 0
    · by_cases c : y + 1 ≤ x
      · obtain ⟨r, hX, hY⟩ := ih (i + 1) x (y + 1) (by omega)
        exact ⟨r, fun post hp => br_f (ab_nend hi') ⟨ab_in hi', br_t ((ab_xF H K hi').mpr z) (br_t c (nm_r (nI_1 i) (hX post hp)))⟩, fun post hp => br_f (ab_nend hi') ⟨ab_in hi', br_t ((ab_yF J K hi').mpr z) (br_t c (nm_r (nI_1 i) (hY post hp)))⟩⟩
      · obtain ⟨r, hX, hY⟩ := ih (i + 1) (y + 1) (y + 1) (by omega)
        exact ⟨r, fun post hp => br_f (ab_nend hi') ⟨ab_in hi', br_t ((ab_xF H K hi').mpr z) (br_f c (nm_r (nI_1 i) (hX post hp)))⟩, fun post hp => br_f (ab_nend hi') ⟨ab_in hi', br_t ((ab_yF J K hi').mpr z) (br_f c (nm_r (nI_1 i) (hY post hp)))⟩⟩
    · have zx : ¬ a (nI i).toNatClampNeg = (-1) := fun w => z ((ab_xF H K hi').mp w)
      have zy : ¬ b (nI i).toNatClampNeg = 0 := fun w => z ((ab_yF J K hi').mp w)
      by_cases c : (0 : Int32) ≤ x
      · obtain ⟨r, hX, hY⟩ := ih (i + 1) x 0 (by omega)
        exact ⟨r, fun post hp => br_f (ab_nend hi') ⟨ab_in hi', br_f zx (br_t c (nm_r (nI_1 i) (hX post hp)))⟩, fun post hp => br_f (ab_nend hi') ⟨ab_in hi', br_f zy (br_t c (nm_r (nI_1 i) (hY post hp)))⟩⟩
      · obtain ⟨r, hX, hY⟩ := ih (i + 1) 0 0 (by omega)
        exact ⟨r, fun post hp => br_f (ab_nend hi') ⟨ab_in hi', br_f zx (br_f c (nm_r (nI_1 i) (hX post hp)))⟩, fun post hp => br_f (ab_nend hi') ⟨ab_in hi', br_f zy (br_f c (nm_r (nI_1 i) (hY post hp)))⟩⟩
/-- allows, in lockstep -/
theorem ab_aw {g : Nat → Nat} {a b : Nat → Int32} (o q : Nat → Int32) (H : RX g a) (J : RY g b) (K : OKg g) {f l t : Nat} (hl : f + l ≤ 64) (ht : t ≤ 7) : ∀ d i : Nat, i + d = f + l → ∃ r : Int32, (∀ post : Int32 → Prop, post r → wX_allows_20 post (nI f) (nI l) (nI t) a o (d + 1) (nI i)) ∧ (∀ post : Int32 → Prop, post r → wY_allows_29 post (nI f) (nI l) (nI t) b q (d + 1) 1 (nI i)) := by
  intro d
  induction d with
  | zero =>
    intro i hi
    have h : nI f + nI l ≤ nI i := ab_fe (by omega) (by omega)
    exact ⟨1, fun post hp => br_t h hp, fun post hp => br_f ab_10 (br_t h ⟨rfl, hp⟩)⟩
  | succ d ih =>
    intro i hi
    have hi' : i < 64 := by omega
    have hc : ¬ nI f + nI l ≤ nI i := ab_fn (by omega) (by omega)
    have hK := K i hi'
    by_cases z : g i = 0
    · exact ⟨0, fun post hp => br_f hc ⟨ab_in hi', br_t ((ab_xF H K hi').mpr z) hp⟩, fun post hp => br_f ab_10 (br_f hc ⟨ab_in hi', br_t ((ab_yL J K hi').mpr z) (nm_e (br_t rfl ⟨rfl, hp⟩))⟩)⟩
    · have zx : ¬ a (nI i).toNatClampNeg = (-1) := fun w => z ((ab_xF H K hi').mp w)
      have zy : ¬ b (nI i).toNatClampNeg ≤ 0 := fun w => z ((ab_yL J K hi').mp w)
      have vx : a (nI i).toNatClampNeg = nI (g i - 1) := by rw [ab_xV H hi']; exact ab_k1 z
      have vy : b (nI i).toNatClampNeg - 1 = nI (g i - 1) := by rw [ab_yV J hi']; exact ab_k1 z
      have al := ab_al (g i - 1) (by omega) t (by omega)
      by_cases c : (nI (g i - 1) &&& nI t) = nI t
      · have cx : (a (nI i).toNatClampNeg &&& nI t) = nI t := by rw [vx]; exact c
        have cy : (nI t &&& ((b (nI i).toNatClampNeg - 1) ^^^ (-1))) = 0 := by rw [vy]; exact al.mpr c
        obtain ⟨r, hX, hY⟩ := ih (i + 1) (by omega)
        exact ⟨r, fun post hp => br_f hc ⟨ab_in hi', br_f zx ⟨ab_in hi', br_t cx (nm_r (nI_1 i) (hX post hp))⟩⟩, fun post hp => br_f ab_10 (br_f hc ⟨ab_in hi', br_f zy ⟨ab_in hi', br_t cy (nm_r (nI_1 i) (hY post hp))⟩⟩)⟩
      · have cx : ¬ (a (nI i).toNatClampNeg &&& nI t) = nI t := by rw [vx]; exact c
        have cy : ¬ (nI t &&& ((b (nI i).toNatClampNeg - 1) ^^^ (-1))) = 0 := by rw [vy]; exact fun w => c (al.mp w)
        exact ⟨0, fun post hp => br_f hc ⟨ab_in hi', br_f zx ⟨ab_in hi', br_f cx hp⟩⟩, fun post hp => br_f ab_10 (br_f hc ⟨ab_in hi', br_f zy ⟨ab_in hi', br_f cy (nm_e (br_t rfl ⟨rfl, hp⟩))⟩⟩)⟩
/-- nextWith from its page on, in lockstep -/
theorem ab_nw {g : Nat → Nat} {a b : Nat → Int32} (o q : Nat → Int32) (H : RX g a) (J : RY g b) (K : OKg g) (t w : Int32) : ∀ d i : Nat, i + d = 64 → (∀ j, i ≤ j → j < 64 → ¬ nI j < w) → ∃ r : Int32, (∀ post : Int32 → Prop, post r → wX_nextWith_10 post t a o (d + 1) (nI i)) ∧ (∀ post : Int32 → Prop, post r → wY_nextWith_2 post t w b q (d + 1) (nI i)) := by
  intro d
  induction d with
  | zero =>
    intro i hi _
    have h : (64 : Int32) ≤ nI i := ab_end (by omega) (by omega)
    exact ⟨-3, fun post hp => br_t h hp, fun post hp => br_t h hp⟩
  | succ d ih =>
    intro i hi hw
    have hi' : i < 64 := by omega
    have h0 := hw i (by omega) hi'
    obtain ⟨r, hX, hY⟩ := ih (i + 1) (by omega) (fun j h1 h2 => hw j (by omega) h2)
    by_cases z : g i = 0
    · exact ⟨r, fun post hp => br_f (ab_nend hi') ⟨ab_in hi', br_t ((ab_xF H K hi').mpr z) (nm_r (nI_1 i) (hX post hp))⟩, fun post hp => br_f (ab_nend hi') (br_f h0 ⟨ab_in hi', br_t ((ab_yL J K hi').mpr z) (nm_r (nI_1 i) (hY post hp))⟩)⟩
    · have zx : ¬ a (nI i).toNatClampNeg = (-1) := fun w => z ((ab_xF H K hi').mp w)
      have zy : ¬ b (nI i).toNatClampNeg ≤ 0 := fun w => z ((ab_yL J K hi').mp w)
      have e : a (nI i).toNatClampNeg = b (nI i).toNatClampNeg - 1 := by rw [ab_xV H hi', ab_yV J hi']
      by_cases c : (b (nI i).toNatClampNeg - 1) >>> ((3 : Int32) &&& 31) = t
      · have cx : a (nI i).toNatClampNeg >>> ((3 : Int32) &&& 31) = t := by rw [e]; exact c
        exact ⟨nI i, fun post hp => br_f (ab_nend hi') ⟨ab_in hi', br_f zx ⟨ab_in hi', br_t cx hp⟩⟩, fun post hp => br_f (ab_nend hi') (br_f h0 ⟨ab_in hi', br_f zy ⟨ab_in hi', br_t c hp⟩⟩)⟩
      · have cx : ¬ a (nI i).toNatClampNeg >>> ((3 : Int32) &&& 31) = t := by rw [e]; exact c
        exact ⟨r, fun post hp => br_f (ab_nend hi') ⟨ab_in hi', br_f zx ⟨ab_in hi', br_f cx (nm_r (nI_1 i) (hX post hp))⟩⟩, fun post hp => br_f (ab_nend hi') (br_f h0 ⟨ab_in hi', br_f zy ⟨ab_in hi', br_f c (nm_r (nI_1 i) (hY post hp))⟩⟩)⟩
/-- the pages before it, on the reference's side -/
theorem ab_nwS {b : Nat → Int32} (q : Nat → Int32) (t w : Int32) (post : Int32 → Prop) (n e : Nat) (he : e ≤ 64) (hs : wY_nextWith_2 post t w b q n (nI e)) : ∀ d i : Nat, i + d = e → (∀ j, i ≤ j → j < e → nI j < w) → wY_nextWith_2 post t w b q (n + d) (nI i) := by
  intro d
  induction d with
  | zero =>
    intro i hi _
    have : i = e := by omega
    rw [this]; exact hs
  | succ d ih =>
    intro i hi hw
    exact br_f (ab_nend (by omega)) (br_t (hw i (by omega) (by omega)) (nm_r (nI_1 i) (ih (i + 1) (by omega) (fun j h1 h2 => hw j (by omega) h2))))
/-- the constructor -/
theorem ab_new (post : SX → Prop) (h : ∀ a, RX (fun _ => 0) a → post (a, fun _ => 0)) : ∀ (d i : Nat) (a : Nat → Int32), i + d = 64 → (∀ j, j < i → a j = nI 0 - 1) → wX_init_22 post (d + 1) (nI i) a (fun _ => 0) := by
  intro d
  induction d with
  | zero =>
    intro i a hi hp
    exact br_t (ab_end (by omega) (by omega)) (h a (fun j hj => hp j (by omega)))
  | succ d ih =>
    intro i a hi hp
    have hi' : i < 64 := by omega
    exact br_f (ab_nend hi') ⟨ab_in hi', nm_e (nm_r (nI_1 i) (ih (i + 1) _ (by omega) (ab_put (p := fun _ => nI 0 - 1) hi' hp (by decide))))⟩
