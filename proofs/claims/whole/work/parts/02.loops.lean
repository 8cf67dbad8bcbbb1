theorem ab_cmX {g : Nat → Nat} {a : Nat → Int32} (o : Nat → Int32) (H : RX g a) (K : OKg g) (post : Int32 → Prop) (f l : Nat) (hl : f + l ≤ 64) : ∀ (d i : Nat) (x : Int32), i + d = f + l → post (x + nI (ab_cn g i d)) → wX_countMapped_5 post (nI f) (nI l) a o (d + 1) x (nI i) := by
  intro d
  induction d with
  | zero =>
    intro i x hi hp
    refine br_t (ab_fe (by omega) (by omega)) ?_
    have e : x + nI (ab_cn g i 0) = x := ab_s0 x
    rwa [e] at hp
  | succ d ih =>
    intro i x hi hp
    rw [ab_cnS] at hp
    refine br_f (ab_fn (by omega) (by omega)) ⟨ab_in (by omega), ab_if (ab_xF H K (by omega)) (fun z => nm_r (nI_1 i) (ih (i + 1) x (by omega) ?_)) (fun z => nm_e (nm_r (nI_1 i) (ih (i + 1) (x + 1) (by omega) ?_)))⟩
    · rwa [if_pos z, Nat.zero_add] at hp
    · rwa [if_neg z, ab_s1] at hp
theorem ab_cmY {g : Nat → Nat} {b : Nat → Int32} (o : Nat → Int32) (H : RY g b) (K : OKg g) (post : Int32 → Prop) (f l : Nat) (hl : f + l ≤ 64) : ∀ (d i : Nat) (x : Int32), i + d = f + l → post (x + nI (ab_cn g i d)) → wY_used_5 post (nI f) (nI l) b o (d + 1) x (nI i) := by
  intro d
  induction d with
  | zero =>
    intro i x hi hp
    refine br_t (ab_fe (by omega) (by omega)) ?_
    have e : x + nI (ab_cn g i 0) = x := ab_s0 x
    rwa [e] at hp
  | succ d ih =>
    intro i x hi hp
    rw [ab_cnS] at hp
    refine br_f (ab_fn (by omega) (by omega)) ⟨ab_in (by omega), ab_if (ab_yL H K (by omega)) (fun z => nm_r (nI_1 i) (ih (i + 1) x (by omega) ?_)) (fun z => nm_e (nm_r (nI_1 i) (ih (i + 1) (x + 1) (by omega) ?_)))⟩
    · rwa [if_pos z, Nat.zero_add] at hp
    · rwa [if_neg z, ab_s1] at hp
theorem ab_z (m : Nat) : (0 : Int32) + nI m = nI m := Int32.zero_add _
theorem ab_countX {g : Nat → Nat} {a o : Nat → Int32} (H : RX g a) (K : OKg g) {post : Int32 → Prop} {f l : Nat} (hl : f + l ≤ 64) (hp : post (nI (ab_cn g f l))) : wpX_countMapped post (a, o) (nI f) (nI l) :=
  ⟨l + 1, ab_cmX o H K post f l hl l f 0 rfl (by rw [ab_z]; exact hp)⟩
theorem ab_countY {g : Nat → Nat} {b o : Nat → Int32} (H : RY g b) (K : OKg g) {post : Int32 → Prop} {f l : Nat} (hl : f + l ≤ 64) (hp : post (nI (ab_cn g f l))) : wpY_used post (b, o) (nI f) (nI l) :=
  ⟨l + 1, ab_cmY o H K post f l hl l f 0 rfl (by rw [ab_z]; exact hp)⟩
theorem ab_stX {g : Nat → Nat} {a o : Nat → Int32} (H : RX g a) (K : OKg g) {j : Nat} (hj : j < 64) {post : Int32 → Prop} (h1 : ab_st g j = true → post 1) (h0 : ¬ ab_st g j = true → post 0) : wpX_startsArea post (a, o) (nI j) := by
  refine ⟨ab_in hj, ab_if (ab_xF H K hj) (fun z => h0 (fun s => (ab_stT.mp s).1 z)) (fun z => ab_if (ab_eq0 (by omega)) (fun e => h1 (ab_stT.mpr ⟨z, Or.inl e⟩)) (fun e => ?_))⟩
  rw [ab_pd (by omega)]
  refine ⟨ab_in (by omega), ab_in hj, ab_if (ab_xE H K (by omega) hj) (fun w => h0 (fun s => ?_)) (fun w => h1 (ab_stT.mpr ⟨z, Or.inr w⟩))⟩
  rcases (ab_stT.mp s).2 with q | q
  · exact e q
  · exact q w
theorem ab_stY {g : Nat → Nat} {b o : Nat → Int32} (H : RY g b) (K : OKg g) {j : Nat} (hj : j < 64) {post : Int32 → Prop} (h1 : ab_st g j = true → post 1) (h0 : ¬ ab_st g j = true → post 0) : wpY_begins post (b, o) (nI j) := by
  refine ⟨ab_in hj, ab_if (ab_yL H K hj) (fun z => h0 (fun s => (ab_stT.mp s).1 z)) (fun z => ab_if (ab_eq0 (by omega)) (fun e => h1 (ab_stT.mpr ⟨z, Or.inl e⟩)) (fun e => ?_))⟩
  rw [ab_pd (by omega)]
  refine ⟨ab_in (by omega), ab_in hj, ab_if (ab_yE H K (by omega) hj) (fun w => h0 (fun s => ?_)) (fun w => h1 (ab_stT.mpr ⟨z, Or.inr w⟩))⟩
  rcases (ab_stT.mp s).2 with q | q
  · exact e q
  · exact q w
theorem ab_10 : ¬ (1 : Int32) = 0 := by decide
theorem ab_caX {g : Nat → Nat} {a : Nat → Int32} (o : Nat → Int32) (H : RX g a) (K : OKg g) (post : Int32 → Prop) (L : Nat) (hL : L < 64) : ∀ (d i : Nat) (x : Int32), i + d = L + 1 → post (x + nI (ab_ns g i d)) → wX_countAreasTo_4 post (nI L) a o (d + 1) x (nI i) := by
  intro d
  induction d with
  | zero =>
    intro i x hi hp
    refine br_t (nI_lt (by omega) (by omega)) ?_
    have e : x + nI (ab_ns g i 0) = x := ab_s0 x
    rwa [e] at hp
  | succ d ih =>
    intro i x hi hp
    rw [ab_nsS] at hp
    refine br_f (nI_nlt (by omega) (by omega)) ?_
    refine ab_stX H K (by omega) ?_ ?_
    · intro s
      refine br_f ab_10 (nm_e (nm_r (nI_1 i) (ih (i + 1) (x + 1) (by omega) ?_)))
      rwa [if_pos s, ab_s1] at hp
    · intro s
      refine br_t rfl (nm_r (nI_1 i) (ih (i + 1) x (by omega) ?_))
      rwa [if_neg s, Nat.zero_add] at hp
theorem ab_caY {g : Nat → Nat} {b : Nat → Int32} (o : Nat → Int32) (H : RY g b) (K : OKg g) (post : Int32 → Prop) : ∀ (d i : Nat) (x : Int32), i + d = 64 → post (x + nI (ab_ns g i d)) → wY_areas_4 post b o (d + 1) x (nI i) := by
  intro d
  induction d with
  | zero =>
    intro i x hi hp
    refine br_t (ab_end (by omega) (by omega)) ?_
    have e : x + nI (ab_ns g i 0) = x := ab_s0 x
    rwa [e] at hp
  | succ d ih =>
    intro i x hi hp
    rw [ab_nsS] at hp
    refine br_f (ab_nend (by omega)) ?_
    refine ab_stY H K (by omega) ?_ ?_
    · intro s
      refine br_f ab_10 (nm_e (nm_r (nI_1 i) (ih (i + 1) (x + 1) (by omega) ?_)))
      rwa [if_pos s, ab_s1] at hp
    · intro s
      refine br_t rfl (nm_r (nI_1 i) (ih (i + 1) x (by omega) ?_))
      rwa [if_neg s, Nat.zero_add] at hp
theorem ab_aoY {g : Nat → Nat} {b : Nat → Int32} (o : Nat → Int32) (H : RY g b) (K : OKg g) (post : Int32 → Prop) (L : Nat) (hL : L < 64) : ∀ (d i : Nat) (x : Int32), i + d = L + 1 → post (x + nI (ab_ns g i d)) → wY_areaOf_24 post (nI L) b o (d + 1) x (nI i) := by
  intro d
  induction d with
  | zero =>
    intro i x hi hp
    refine br_t (nI_lt (by omega) (by omega)) ?_
    have e : x + nI (ab_ns g i 0) = x := ab_s0 x
    rwa [e] at hp
  | succ d ih =>
    intro i x hi hp
    rw [ab_nsS] at hp
    refine br_f (nI_nlt (by omega) (by omega)) ?_
    refine ab_stY H K (by omega) ?_ ?_
    · intro s
      refine br_f ab_10 (nm_e (nm_r (nI_1 i) (ih (i + 1) (x + 1) (by omega) ?_)))
      rwa [if_pos s, ab_s1] at hp
    · intro s
      refine br_t rfl (nm_r (nI_1 i) (ih (i + 1) x (by omega) ?_))
      rwa [if_neg s, Nat.zero_add] at hp
theorem ab_areasX {g : Nat → Nat} {a o : Nat → Int32} (H : RX g a) (K : OKg g) {post : Int32 → Prop} {L : Nat} (hL : L < 64) (hp : post (nI (ab_ns g 0 (L + 1)))) : wpX_countAreasTo post (a, o) (nI L) :=
  ⟨L + 1 + 1, ab_caX o H K post L hL (L + 1) 0 0 (by omega) (by rw [ab_z]; exact hp)⟩
theorem ab_areasY {g : Nat → Nat} {b o : Nat → Int32} (H : RY g b) (K : OKg g) {post : Int32 → Prop} (hp : post (nI (ab_ns g 0 64))) : wpY_areas post (b, o) :=
  ⟨64 + 1, ab_caY o H K post 64 0 0 (by omega) (by rw [ab_z]; exact hp)⟩
theorem ab_put {a p : Nat → Int32} {i : Nat} {x : Int32} (hi : i < 64) (h : ∀ j, j < i → a j = p j) (hx : x = p i) : ∀ j, j < i + 1 → upd a (nI i).toNatClampNeg x j = p j := by
  intro j hj
  rw [nI_clamp (by omega)]
  by_cases e : j = i
  · rw [e, pk_us]; exact hx
  · rw [pk_un e]; exact h j (by omega)
theorem ab_koX {g : Nat → Nat} {a : Nat → Int32} (H : RX g a) (post : SX → Prop) (h : ∀ o', RX g o' → post (a, o')) : ∀ (d i : Nat) (o : Nat → Int32), i + d = 64 → (∀ j, j < i → o j = nI (g j) - 1) → wX_keepOld_2 post (d + 1) (nI i) a o := by
  intro d
  induction d with
  | zero =>
    intro i o hi hp
    exact br_t (ab_end (by omega) (by omega)) (h o (fun j hj => hp j (by omega)))
  | succ d ih =>
    intro i o hi hp
    have hi' : i < 64 := by omega
    exact br_f (ab_nend hi') ⟨ab_in hi', ab_in hi', nm_e (nm_r (nI_1 i) (ih (i + 1) _ (by omega) (ab_put (p := fun j => nI (g j) - 1) hi' hp (ab_xV H hi'))))⟩
theorem ab_keepX {g : Nat → Nat} {a o : Nat → Int32} (H : RX g a) {post : SX → Prop} (h : ∀ o', RX g o' → post (a, o')) : wpX_keepOld post (a, o) :=
  ⟨64 + 1, ab_koX H post h 64 0 o (by omega) (fun j hj => absurd hj (Nat.not_lt_zero j))⟩
theorem ab_koY {g : Nat → Nat} {b : Nat → Int32} (H : RY g b) (post : SY → Prop) (h : ∀ o', RY g o' → post (b, o')) : ∀ (d i : Nat) (o : Nat → Int32), i + d = 64 → (∀ j, j < i → o j = nI (g j)) → wY_keep_2 post (d + 1) (nI i) b o := by
  intro d
  induction d with
  | zero =>
    intro i o hi hp
    exact br_t (ab_end (by omega) (by omega)) (h o (fun j hj => hp j (by omega)))
  | succ d ih =>
    intro i o hi hp
    have hi' : i < 64 := by omega
    exact br_f (ab_nend hi') ⟨ab_in hi', ab_in hi', nm_e (nm_r (nI_1 i) (ih (i + 1) _ (by omega) (ab_put (p := fun j => nI (g j)) hi' hp (ab_yV H hi'))))⟩
theorem ab_keepY {g : Nat → Nat} {b o : Nat → Int32} (H : RY g b) {post : SY → Prop} (h : ∀ o', RY g o' → post (b, o')) : wpY_keep post (b, o) :=
  ⟨64 + 1, ab_koY H post h 64 0 o (by omega) (fun j hj => absurd hj (Nat.not_lt_zero j))⟩
theorem ab_udX {g : Nat → Nat} {o : Nat → Int32} (H : RX g o) (post : Int32 → SX → Prop) (h : ∀ a', RX g a' → post 0 (a', o)) : ∀ (d i : Nat) (a : Nat → Int32), i + d = 64 → (∀ j, j < i → a j = nI (g j) - 1) → wX_acceptOrUndo_15 post (d + 1) (nI i) a o := by
  intro d
  induction d with
  | zero =>
    intro i a hi hp
    exact br_t (ab_end (by omega) (by omega)) (h a (fun j hj => hp j (by omega)))
  | succ d ih =>
    intro i a hi hp
    have hi' : i < 64 := by omega
    exact br_f (ab_nend hi') ⟨ab_in hi', ab_in hi', nm_e (nm_r (nI_1 i) (ih (i + 1) _ (by omega) (ab_put (p := fun j => nI (g j) - 1) hi' hp (ab_xV H hi'))))⟩
theorem ab_udY {g : Nat → Nat} {o : Nat → Int32} (H : RY g o) (post : Int32 → SY → Prop) (h : ∀ b', RY g b' → post 1 (b', o)) : ∀ (d i : Nat) (b : Nat → Int32), i + d = 64 → (∀ j, j < i → b j = nI (g j)) → wY_tooMany_17 post 1 (d + 1) (nI i) b o := by
  intro d
  induction d with
  | zero =>
    intro i b hi hp
    exact br_t (ab_end (by omega) (by omega)) ⟨rfl, h b (fun j hj => hp j (by omega))⟩
  | succ d ih =>
    intro i b hi hp
    have hi' : i < 64 := by omega
    exact br_f (ab_nend hi') (br_f ab_10 ⟨ab_in hi', ab_in hi', nm_e (nm_r (nI_1 i) (ih (i + 1) _ (by omega) (ab_put (p := fun j => nI (g j)) hi' hp (ab_yV H hi'))))⟩)
theorem ab_accX {g g0 : Nat → Nat} {a o : Nat → Int32} (H : RX g a) (K : OKg g) (Ho : RX g0 o) {post : Int32 → SX → Prop} (h1 : ab_ns g 0 64 ≤ 20 → post 1 (a, o)) (h0 : 20 < ab_ns g 0 64 → ∀ a', RX g0 a' → post 0 (a', o)) : wpX_acceptOrUndo post (a, o) := by
  have hn := ab_ns_le g 64 0
  unfold wpX_acceptOrUndo
  dsimp only
  refine ab_areasX (L := 63) H K (by decide) ?_
  by_cases c : 20 < ab_ns g 0 64
  · exact br_t (nI_lt (a := 20) (b := ab_ns g 0 64) c (by omega)) ⟨64 + 1, ab_udX Ho post (h0 c) 64 0 a (by omega) (fun j hj => absurd hj (Nat.not_lt_zero j))⟩
  · exact br_f (nI_nlt (b := ab_ns g 0 64) (a := 20) (by omega) (by decide)) (h1 (by omega))
theorem ab_tmY {g g0 : Nat → Nat} {b o : Nat → Int32} (H : RY g b) (K : OKg g) (Ho : RY g0 o) {post : Int32 → SY → Prop} (h0 : ab_ns g 0 64 ≤ 20 → post 0 (b, o)) (h1 : 20 < ab_ns g 0 64 → ∀ b', RY g0 b' → post 1 (b', o)) : wpY_tooMany post (b, o) := by
  have hn := ab_ns_le g 64 0
  unfold wpY_tooMany
  dsimp only
  refine ab_areasY H K ?_
  by_cases c : 20 < ab_ns g 0 64
  · exact br_f (nI_ge (a := 20) c (by omega)) ⟨64 + 1, ab_udY Ho post (h1 c) 64 0 b (by omega) (fun j hj => absurd hj (Nat.not_lt_zero j))⟩
  · exact br_t (nI_le (b := 20) (by omega) (by decide)) ⟨1, br_f (by decide) (br_t rfl ⟨rfl, h0 (by omega)⟩)⟩
