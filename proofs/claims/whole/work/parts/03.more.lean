theorem ab_flK {g : Nat → Nat} {f m c : Nat} {j : Nat} (h : j ≠ f + m) : ab_fl g f (m + 1) c j = ab_fl g f m c j := by
  unfold ab_fl
  by_cases e : f ≤ j ∧ j < f + m
  · rw [if_pos e, if_pos (by omega)]
  · rw [if_neg e, if_neg (by omega)]
theorem ab_flN {g : Nat → Nat} {f m c : Nat} : ab_fl g f (m + 1) c (f + m) = c := if_pos ⟨by omega, by omega⟩
theorem ab_fl0 {g : Nat → Nat} {f c : Nat} : ab_fl g f 0 c = g := by
  funext j
  exact if_neg (by omega)
theorem ab_ptK {g : Nat → Nat} {f m r : Nat} {j : Nat} (h : j ≠ f + m) : ab_pt g f (m + 1) r j = ab_pt g f m r j := by
  unfold ab_pt
  by_cases e : f ≤ j ∧ j < f + m
  · rw [if_pos e, if_pos (by omega)]
  · rw [if_neg e, if_neg (by omega)]
theorem ab_ptN {g : Nat → Nat} {f m r : Nat} : ab_pt g f (m + 1) r (f + m) = (g (f + m) - 1) / 8 * 8 + r + 1 := if_pos ⟨by omega, by omega⟩
theorem ab_ptO {g : Nat → Nat} {f m r : Nat} : ab_pt g f m r (f + m) = g (f + m) := if_neg (by omega)
theorem ab_pt0 {g : Nat → Nat} {f r : Nat} : ab_pt g f 0 r = g := by
  funext j
  exact if_neg (by omega)
theorem ab_setX {g g' : Nat → Nat} {a : Nat → Int32} {i : Nat} {x : Int32} (hi : i < 64) (H : RX g a) (hk : ∀ j, j ≠ i → g' j = g j) (hx : x = nI (g' i) - 1) : RX g' (upd a (nI i).toNatClampNeg x) := by
  intro j hj
  rw [nI_clamp (by omega)]
  by_cases e : j = i
  · rw [e, pk_us]; exact hx
  · rw [pk_un e, hk j e]; exact H j hj
theorem ab_setY {g g' : Nat → Nat} {b : Nat → Int32} {i : Nat} {x : Int32} (hi : i < 64) (H : RY g b) (hk : ∀ j, j ≠ i → g' j = g j) (hx : x = nI (g' i)) : RY g' (upd b (nI i).toNatClampNeg x) := by
  intro j hj
  rw [nI_clamp (by omega)]
  by_cases e : j = i
  · rw [e, pk_us]; exact hx
  · rw [pk_un e, hk j e]; exact H j hj
theorem ab_flX {g g0 : Nat → Nat} (K : OKg g) (post : Int32 → SX → Prop) (f l c : Nat) (hl : f + l ≤ 64) (hc : c ≤ 128) {x : Int32} (hx : x = nI c - 1) {o : Nat → Int32} (Ho : RX g0 o) (h1 : ab_ns (ab_fl g f l c) 0 64 ≤ 20 → ∀ a', RX (ab_fl g f l c) a' → post 1 (a', o)) (h0 : 20 < ab_ns (ab_fl g f l c) 0 64 → ∀ a', RX g0 a' → post 0 (a', o)) : ∀ (d m : Nat) (a : Nat → Int32), m + d = l → RX (ab_fl g f m c) a → wX_fill_7 post (nI f) (nI l) x (d + 1) (nI (f + m)) a o := by
  intro d
  induction d with
  | zero =>
    intro m a hm H
    have e : m = l := by omega
    subst e
    refine br_t (ab_fe (by omega) (by omega)) ?_
    exact ab_accX H (ab_flOK K f m hc) Ho (fun z => ⟨rfl, h1 z a H⟩) (fun z a' H' => ⟨rfl, h0 z a' H'⟩)
  | succ d ih =>
    intro m a hm H
    refine br_f (ab_fn (by omega) (by omega)) ⟨ab_in (by omega), nm_e (nm_r (nI_1 (f + m)) (ih (m + 1) _ (by omega) ?_))⟩
    exact ab_setX (by omega) H (fun j hj => ab_flK hj) (by rw [ab_flN]; exact hx)
theorem ab_fillX {g : Nat → Nat} {a o : Nat → Int32} (H : RX g a) (K : OKg g) {post : Int32 → SX → Prop} {f l c : Nat} (hl : f + l ≤ 64) (hc : c ≤ 128) {x : Int32} (hx : x = nI c - 1) (h1 : ab_ns (ab_fl g f l c) 0 64 ≤ 20 → ∀ a' o', RX (ab_fl g f l c) a' → post 1 (a', o')) (h0 : 20 < ab_ns (ab_fl g f l c) 0 64 → ∀ a' o', RX g a' → post 0 (a', o')) : wpX_fill post (a, o) (nI f) (nI l) x := by
  unfold wpX_fill
  dsimp only
  refine ab_keepX H (fun o' Ho => ⟨l + 1, ?_⟩)
  exact ab_flX K post f l c hl hc hx Ho (fun z a' H' => h1 z a' o' H') (fun z a' H' => h0 z a' o' H') l 0 a (by omega) (by rw [ab_fl0]; exact H)
theorem ab_flY {g : Nat → Nat} (post : SY → Prop) (f l c : Nat) (hl : f + l ≤ 64) {x : Int32} (hx : x = nI c) {o : Nat → Int32} (h : ∀ b', RY (ab_fl g f l c) b' → post (b', o)) : ∀ (d m : Nat) (b : Nat → Int32), m + d = l → RY (ab_fl g f m c) b → wY_fill_3 post (nI f) (nI l) x (d + 1) (nI (f + m)) b o := by
  intro d
  induction d with
  | zero =>
    intro m b hm H
    have e : m = l := by omega
    subst e
    exact br_t (ab_fe (by omega) (by omega)) (h b H)
  | succ d ih =>
    intro m b hm H
    refine br_f (ab_fn (by omega) (by omega)) ⟨ab_in (by omega), nm_e (nm_r (nI_1 (f + m)) (ih (m + 1) _ (by omega) ?_))⟩
    exact ab_setY (by omega) H (fun j hj => ab_flK hj) (by rw [ab_flN]; exact hx)
theorem ab_fillY {g : Nat → Nat} {b o : Nat → Int32} (H : RY g b) {post : SY → Prop} {f l c : Nat} (hl : f + l ≤ 64) {x : Int32} (hx : x = nI c) (h : ∀ b', RY (ab_fl g f l c) b' → post (b', o)) : wpY_fill post (b, o) (nI f) (nI l) x :=
  ⟨l + 1, ab_flY post f l c hl hx h l 0 b (by omega) (by rw [ab_fl0]; exact H)⟩
theorem ab_k1 {c : Nat} (h : c ≠ 0) : nI c - 1 = nI (c - 1) := ab_pd (by omega)
theorem ab_plX {g g0 : Nat → Nat} (K : OKg g) (post : Int32 → SX → Prop) (f l r : Nat) (hl : f + l ≤ 64) (hr : r ≤ 7) (hm : ∀ j, f ≤ j → j < f + l → g j ≠ 0) {o : Nat → Int32} (Ho : RX g0 o) : ∀ (d m : Nat) (x : Int32) (a : Nat → Int32), m + d = l → RX (ab_pt g f m r) a → (ab_ns (ab_pt g f l r) 0 64 ≤ 20 → ∀ a', RX (ab_pt g f l r) a' → post (x + nI (ab_pc g r (f + m) d)) (a', o)) → (20 < ab_ns (ab_pt g f l r) 0 64 → ∀ a', RX g0 a' → post (-2) (a', o)) → wX_protect_40 post (nI f) (nI l) (nI r) (d + 1) x (nI (f + m)) a o := by
  intro d
  induction d with
  | zero =>
    intro m x a hm H h1 h0
    have e : m = l := by omega
    subst e
    refine br_t (ab_fe (by omega) (by omega)) ?_
    have e : x + nI (ab_pc g r (f + m) 0) = x := ab_s0 x
    rw [e] at h1
    exact ab_accX H (ab_ptOK K f m hr) Ho (fun z => br_f ab_10 (h1 z a H)) (fun z a' H' => br_t rfl (h0 z a' H'))
  | succ d ih =>
    intro m x a hm' H h1 h0
    have hi : f + m < 64 := by omega
    have hg := hm (f + m) (by omega) (by omega)
    have hK := K (f + m) hi
    have hv : a (nI (f + m)).toNatClampNeg = nI (g (f + m) - 1) := by
      rw [ab_xV H hi, ab_ptO]; exact ab_k1 hg
    refine br_f (ab_fn (by omega) (by omega)) ⟨ab_in hi, ?_⟩
    rw [hv]
    unfold wpX_rightsIn
    rw [ab_a7 (by omega)]
    rw [ab_pcS] at h1
    refine ab_if (nI_eq (by omega) (by omega)) (fun z => nm_r (nI_1 (f + m)) (ih (m + 1) x a (by omega) ?_ ?_ h0)) (fun z => ⟨ab_in hi, ?_⟩)
    · intro j hj
      by_cases e : j = f + m
      · rw [e, ab_ptN, H (f + m) hi, ab_ptO]
        have e2 : (g (f + m) - 1) / 8 * 8 + r + 1 = g (f + m) := by omega
        rw [e2]
      · rw [ab_ptK e]; exact H j hj
    · rw [if_pos z, Nat.zero_add, Nat.add_assoc f m 1] at h1; exact h1
    · unfold wpX_withRights
      rw [ab_wr _ (by omega) _ (by omega)]
      refine ⟨ab_in hi, nm_e (nm_e (nm_r (nI_1 (f + m)) (ih (m + 1) (x + 1) _ (by omega) ?_ ?_ h0)))⟩
      · exact ab_setX hi H (fun j hj => ab_ptK hj) (by rw [ab_ptN, nI_pred])
      · rw [if_neg z, ab_s1, Nat.add_assoc f m 1] at h1; exact h1
theorem ab_plY {g g0 : Nat → Nat} (K : OKg g) (post : Int32 → SY → Prop) (f l r : Nat) (hl : f + l ≤ 64) (hr : r ≤ 7) (hm : ∀ j, f ≤ j → j < f + l → g j ≠ 0) {o : Nat → Int32} (Ho : RY g0 o) : ∀ (d m : Nat) (x : Int32) (b : Nat → Int32), m + d = l → RY (ab_pt g f m r) b → (ab_ns (ab_pt g f l r) 0 64 ≤ 20 → ∀ b', RY (ab_pt g f l r) b' → post (x + nI (ab_pc g r (f + m) d)) (b', o)) → (20 < ab_ns (ab_pt g f l r) 0 64 → ∀ b', RY g0 b' → post (-2) (b', o)) → wY_protect_44 post (nI f) (nI l) (nI r) (d + 1) x (nI (f + m)) b o := by
  intro d
  induction d with
  | zero =>
    intro m x b hm H h1 h0
    have e : m = l := by omega
    subst e
    refine br_t (ab_fe (by omega) (by omega)) ?_
    have e : x + nI (ab_pc g r (f + m) 0) = x := ab_s0 x
    rw [e] at h1
    exact ab_tmY H (ab_ptOK K f m hr) Ho (fun z => br_t rfl (h1 z b H)) (fun z b' H' => br_f ab_10 (h0 z b' H'))
  | succ d ih =>
    intro m x b hm' H h1 h0
    have hi : f + m < 64 := by omega
    have hg := hm (f + m) (by omega) (by omega)
    have hK := K (f + m) hi
    have hv : b (nI (f + m)).toNatClampNeg - 1 = nI (g (f + m) - 1) := by
      rw [ab_yV H hi, ab_ptO]; exact ab_k1 hg
    rw [ab_pcS] at h1
    refine br_f (ab_fn (by omega) (by omega)) ⟨ab_in hi, nm_r hv ?_⟩
    rw [ab_a7 (by omega)]
    have hs : RY (ab_pt g f (m + 1) r) (upd b (nI (f + m)).toNatClampNeg (((nI (g (f + m) - 1) &&& (-8)) ||| nI r) + 1)) :=
      ab_setY hi H (fun j hj => ab_ptK hj) (by rw [ab_ptN, ab_wr _ (by omega) _ (by omega), nI_1])
    refine ab_if (nI_eq (by omega) (by omega)) (fun z => ⟨ab_in hi, nm_e (nm_r (nI_1 (f + m)) (ih (m + 1) x _ (by omega) hs ?_ h0))⟩) (fun z => ⟨ab_in hi, nm_e (nm_r (nI_1 (f + m)) (ih (m + 1) (x + 1) _ (by omega) hs ?_ h0))⟩)
    · rw [if_pos z, Nat.zero_add, Nat.add_assoc f m 1] at h1; exact h1
    · rw [if_neg z, ab_s1, Nat.add_assoc f m 1] at h1; exact h1
/-- l pages from p on are free, and within -/
def ab_Sp (g : Nat → Nat) (l p : Nat) : Prop := p + l ≤ 64 ∧ ∀ j, p ≤ j → j < p + l → g j = 0
theorem ab_frX {g : Nat → Nat} {a : Nat → Int32} (o : Nat → Int32) (H : RX g a) (K : OKg g) (post : Int32 → Prop) (s l : Nat) (hl : 1 ≤ l) (hl' : l < 2 ^ 31) (h1 : ∀ p, s ≤ p → ab_Sp g l p → (∀ q, s ≤ q → q < p → ¬ ab_Sp g l q) → post (nI p)) (h0 : (∀ q, s ≤ q → ¬ ab_Sp g l q) → post (-3)) : ∀ (d q r : Nat), q + d = 64 → s + r ≤ q → r < l → (∀ j, q ≤ j + r → j < q → g j = 0) → (s + r = q ∨ (s + r + 1 ≤ q ∧ g (q - r - 1) ≠ 0)) → (∀ p, s ≤ p → p + l ≤ q → ¬ ab_Sp g l p) → wX_findRoom_5 post (nI l) a o (d + 1) (nI r) (nI q) := by
  intro d
  induction d with
  | zero =>
    intro q r hq hr hrl hf hb hn
    refine br_t (ab_end (by omega) (by omega)) (h0 (fun p hp sp => hn p hp ?_ sp))
    have := sp.1
    omega
  | succ d ih =>
    intro q r hq hr hrl hf hb hn
    have hi : q < 64 := by omega
    refine br_f (ab_nend hi) ⟨ab_in hi, ab_if (ab_xF H K hi) (fun z => ?_) (fun z => ?_)⟩
    · rw [nI_1 r]
      refine ab_if (nI_eq (by omega) hl') (fun e => ?_) (fun e => ?_)
      · rw [ab_fr (by omega)]
        refine h1 (q + 1 - l) (by omega) ⟨by omega, fun j h2 h3 => ?_⟩ (fun p hp hp' => hn p hp (by omega))
        by_cases ej : j = q
        · rw [ej]; exact z
        · exact hf j (by omega) (by omega)
      · refine nm_r (nI_1 q) (ih (q + 1) (r + 1) (by omega) (by omega) (by omega) ?_ ?_ ?_)
        · intro j h2 h3
          by_cases ej : j = q
          · rw [ej]; exact z
          · exact hf j (by omega) (by omega)
        · rcases hb with hb | hb
          · exact Or.inl (by omega)
          · refine Or.inr ⟨by omega, ?_⟩
            have e2 : q + 1 - (r + 1) - 1 = q - r - 1 := by omega
            rw [e2]; exact hb.2
        · intro p hp hpl sp
          by_cases e3 : p + l ≤ q
          · exact hn p hp e3 sp
          · rcases hb with hb | hb
            · omega
            · exact hb.2 (sp.2 (q - r - 1) (by omega) (by omega))
    · refine br_f (fun e => ?_) (nm_r (nI_1 q) (ih (q + 1) 0 (by omega) (by omega) (by omega) ?_ ?_ ?_))
      · exact nI_ne0 (by omega) hl' e.symm
      · intro j h2 h3; omega
      · exact Or.inr ⟨by omega, z⟩
      · intro p hp hpl sp
        by_cases e3 : p + l ≤ q
        · exact hn p hp e3 sp
        · exact z (sp.2 q (by omega) (by omega))
theorem ab_roomX {g : Nat → Nat} {a o : Nat → Int32} (H : RX g a) (K : OKg g) {post : Int32 → Prop} {s l : Nat} (hs : s ≤ 63) (hl : 1 ≤ l) (hl' : l < 2 ^ 31) (h1 : ∀ p, s ≤ p → ab_Sp g l p → (∀ q, s ≤ q → q < p → ¬ ab_Sp g l q) → post (nI p)) (h0 : (∀ q, s ≤ q → ¬ ab_Sp g l q) → post (-3)) : wpX_findRoom post (a, o) (nI s) (nI l) :=
  ⟨64 - s + 1, ab_frX o H K post s l hl hl' h1 h0 (64 - s) s 0 (by omega) (by omega) (by omega) (fun j h2 h3 => by omega) (Or.inl rfl) (fun p hp hpl => by omega)⟩
theorem ab_prY {p l : Nat} (v : SY) (hp : p < 64) (hl : 1 ≤ l) (hl' : l < 2 ^ 31) {post : Int32 → Prop} (h1 : p + l ≤ 64 → post 1) (h0 : 64 < p + l → post 0) : wpY_proper post v (nI p) (nI l) := by
  have e : (64 : Int32) - nI p = nI (64 - p) := pk_sub (a := 64) (by omega)
  refine br_f (nI_pos (by omega)) (br_f (nI_nlt (a := 63) (by omega) (by decide)) (br_f (nI_nlt (b := 1) hl hl') ?_))
  rw [e]
  exact ab_if (nI_ltI (by omega) hl') (fun z => h0 (by omega)) (fun z => h1 (by omega))
theorem ab_rmY {g : Nat → Nat} {b : Nat → Int32} (o : Nat → Int32) (H : RY g b) (K : OKg g) (post : Int32 → Prop) (l e : Nat) (hl : 1 ≤ l) (hl' : l < 2 ^ 31) (he : e ≤ 64) (hs : wY_room_2 post (nI l) b o 1 (nI e)) : ∀ (d i : Nat), i + d = e → (∀ q, i ≤ q → q < e → ¬ ab_Sp g l q) → wY_room_2 post (nI l) b o (d + 1) (nI i) := by
  intro d
  induction d with
  | zero =>
    intro i hi _
    have : i = e := by omega
    rw [this]; exact hs
  | succ d ih =>
    intro i hi hn
    have hi' : i < 64 := by omega
    have hx := ih (i + 1) (by omega) (fun q h1 h2 => hn q (by omega) h2)
    refine br_f (ab_nend hi') (ab_prY _ hi' hl hl' (fun h1 => ?_) (fun h0 => br_t rfl (nm_r (nI_1 i) hx)))
    refine br_f ab_10 (ab_countY H K h1 ?_)
    refine ab_if (ab_eq0 (Nat.lt_of_le_of_lt (ab_cn_le g l i) hl')) (fun z => ?_) (fun z => nm_r (nI_1 i) hx)
    exact absurd ⟨h1, (ab_cn_0 g l i).mp z⟩ (hn i (by omega) (by omega))
theorem ab_roomY1 {g : Nat → Nat} {b o : Nat → Int32} (H : RY g b) (K : OKg g) {post : Int32 → Prop} {s l p : Nat} (hl : 1 ≤ l) (hl' : l < 2 ^ 31) (hp : s ≤ p) (sp : ab_Sp g l p) (hn : ∀ q, s ≤ q → q < p → ¬ ab_Sp g l q) (h : post (nI p)) : wpY_room post (b, o) (nI s) (nI l) := by
  have h64 := sp.1
  refine ⟨p - s + 1, ab_rmY o H K post l p hl hl' (by omega) ?_ (p - s) s (by omega) hn⟩
  refine br_f (ab_nend (by omega)) (ab_prY _ (by omega) hl hl' (fun h1 => br_f ab_10 (ab_countY H K h1 ?_)) (fun h0 => absurd h0 (by omega)))
  exact br_t ((ab_eq0 (Nat.lt_of_le_of_lt (ab_cn_le g l p) hl')).mpr ((ab_cn_0 g l p).mpr sp.2)) h
theorem ab_roomY0 {g : Nat → Nat} {b o : Nat → Int32} (H : RY g b) (K : OKg g) {post : Int32 → Prop} {s l : Nat} (hs : s ≤ 63) (hl : 1 ≤ l) (hl' : l < 2 ^ 31) (hn : ∀ q, s ≤ q → ¬ ab_Sp g l q) (h : post (-1)) : wpY_room post (b, o) (nI s) (nI l) :=
  ⟨64 - s + 1, ab_rmY o H K post l 64 hl hl' (by omega) (br_t (ab_end (by omega) (by decide)) h) (64 - s) s (by omega) (fun q h1 _ => hn q h1)⟩
