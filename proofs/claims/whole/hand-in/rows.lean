section
theorem pk_us {f : Nat → Int32} {k : Nat} {x : Int32} : upd f k x k = x := if_pos rfl
theorem pk_un {f : Nat → Int32} {k j : Nat} {x : Int32} (h : j ≠ k) : upd f k x j = f j := if_neg h
theorem pk_sub {a b : Nat} (h : b ≤ a) : nI a - nI b = nI (a - b) := by
  obtain ⟨c, rfl⟩ : ∃ c, a = c + b := ⟨a - b, by omega⟩
  rw [← nI_add, Int32.add_sub_cancel, Nat.add_sub_cancel]
theorem pk_ix (x : Int32) {n : Nat} (hn : n < 2 ^ 31) : x < 0 ∨ nI n ≤ x ∨ ∃ j : Nat, j < n ∧ x = nI j := by
  by_cases h : x < 0
  · exact Or.inl h
  · obtain ⟨j, hj, rfl⟩ := nI_of h
    by_cases h2 : j < n
    · exact Or.inr (Or.inr ⟨j, h2, rfl⟩)
    · exact Or.inr (Or.inl (nI_le (by omega) hj))
theorem pk_tn {n : Nat} (h : n < 2 ^ 32) : (nI n).toBitVec.toNat = n := Nat.mod_eq_of_lt h
theorem pk_and (x : Int32) {m : Int32} (k : Nat) (hm : m.toBitVec.toNat = 2 ^ k - 1) : x &&& m = nI (x.toBitVec.toNat % 2 ^ k) := by
  apply Int32.toBitVec_inj.mp
  apply BitVec.eq_of_toNat_eq
  rw [Int32.toBitVec_and, BitVec.toNat_and, hm, Nat.and_two_pow_sub_one_eq_mod]
  show _ = (BitVec.ofNat 32 _).toNat
  rw [BitVec.toNat_ofNat]
  exact (Nat.mod_eq_of_lt (Nat.lt_of_le_of_lt (Nat.mod_le _ _) x.toBitVec.isLt)).symm
theorem pk_andN {n : Nat} (h : n < 2 ^ 32) {m : Int32} (k : Nat) (hm : m.toBitVec.toNat = 2 ^ k - 1) : nI n &&& m = nI (n % 2 ^ k) := by
  rw [pk_and _ k hm, pk_tn h]
theorem ab_if {c d A B : Prop} (e : c ↔ d) (f : d → A) (g : ¬ d → B) : (c → A) ∧ (¬ c → B) := ⟨fun h => f (e.mp h), fun h => g (fun z => h (e.mpr z))⟩
theorem ab_eq0 {c : Nat} (h : c < 2 ^ 31) : nI c = 0 ↔ c = 0 := by
  rw [← nI_0, nI_eq h (by decide)]
theorem ab_le0 {c : Nat} (h : c < 2 ^ 31) : nI c ≤ 0 ↔ c = 0 := by
  rw [← nI_0, nI_leI h (by decide)]; omega
theorem ab_inj {c d : Nat} (hc : c < 2 ^ 31) (hd : d < 2 ^ 31) : nI c - 1 = nI d - 1 ↔ c = d := by
  rw [← nI_eq hc hd]
  constructor
  · intro h
    have e : nI c - 1 + 1 = nI d - 1 + 1 := by rw [h]
    rwa [Int32.sub_add_cancel, Int32.sub_add_cancel] at e
  · intro h; rw [h]
theorem ab_m1 {c : Nat} (h : c < 2 ^ 31) : nI c - 1 = -1 ↔ c = 0 := by
  have e : (-1 : Int32) = nI 0 - 1 := by decide
  rw [e]; exact ab_inj h (by decide)
theorem ab_pd {j : Nat} (h : 0 < j) : nI j - 1 = nI (j - 1) := by
  obtain ⟨k, rfl⟩ : ∃ k, j = k + 1 := ⟨j - 1, by omega⟩
  exact nI_pred k
theorem ab_s0 (x : Int32) : x + nI 0 = x := by rw [nI_0, Int32.add_zero]
theorem ab_s1 (x : Int32) (m : Nat) : x + nI (1 + m) = x + 1 + nI m := by
  rw [← nI_add, ← Int32.add_assoc]; rfl
theorem ab_tri (x : Int32) (n : Nat) (hn : n + 1 < 2 ^ 31) : x < 0 ∨ (¬ x < 0 ∧ nI n < x ∧ ¬ x ≤ nI n ∧ nI (n + 1) ≤ x) ∨ ∃ j : Nat, j ≤ n ∧ x = nI j := by
  by_cases h : x < 0
  · exact Or.inl h
  · obtain ⟨j, hj, rfl⟩ := nI_of h
    by_cases h2 : j ≤ n
    · exact Or.inr (Or.inr ⟨j, h2, rfl⟩)
    · exact Or.inr (Or.inl ⟨h, nI_lt (by omega) hj, nI_ge (by omega) hj, nI_le (by omega) hj⟩)
/-- the picture: g j is 0 where page j is free, else its kind + 1; the component holds it less one, the reference as it is -/
def RX (g : Nat → Nat) (a : Nat → Int32) : Prop := ∀ j, j < 64 → a j = nI (g j) - 1
def RY (g : Nat → Nat) (b : Nat → Int32) : Prop := ∀ j, j < 64 → b j = nI (g j)
def OKg (g : Nat → Nat) : Prop := ∀ j, j < 64 → g j ≤ 128
theorem ab_xV {g : Nat → Nat} {a : Nat → Int32} (H : RX g a) {i : Nat} (hi : i < 64) : a (nI i).toNatClampNeg = nI (g i) - 1 := by
  rw [nI_clamp (by omega)]; exact H i hi
theorem ab_yV {g : Nat → Nat} {b : Nat → Int32} (H : RY g b) {i : Nat} (hi : i < 64) : b (nI i).toNatClampNeg = nI (g i) := by
  rw [nI_clamp (by omega)]; exact H i hi
theorem ab_sm {g : Nat → Nat} (K : OKg g) {i : Nat} (hi : i < 64) : g i < 2 ^ 31 := Nat.lt_of_le_of_lt (K i hi) (by decide)
theorem ab_xF {g : Nat → Nat} {a : Nat → Int32} (H : RX g a) (K : OKg g) {i : Nat} (hi : i < 64) : a (nI i).toNatClampNeg = (-1) ↔ g i = 0 := by
  rw [ab_xV H hi]; exact ab_m1 (ab_sm K hi)
theorem ab_yF {g : Nat → Nat} {b : Nat → Int32} (H : RY g b) (K : OKg g) {i : Nat} (hi : i < 64) : b (nI i).toNatClampNeg = 0 ↔ g i = 0 := by
  rw [ab_yV H hi]; exact ab_eq0 (ab_sm K hi)
theorem ab_yL {g : Nat → Nat} {b : Nat → Int32} (H : RY g b) (K : OKg g) {i : Nat} (hi : i < 64) : b (nI i).toNatClampNeg ≤ 0 ↔ g i = 0 := by
  rw [ab_yV H hi]; exact ab_le0 (ab_sm K hi)
theorem ab_xE {g : Nat → Nat} {a : Nat → Int32} (H : RX g a) (K : OKg g) {i j : Nat} (hi : i < 64) (hj : j < 64) : a (nI i).toNatClampNeg = a (nI j).toNatClampNeg ↔ g i = g j := by
  rw [ab_xV H hi, ab_xV H hj]; exact ab_inj (ab_sm K hi) (ab_sm K hj)
theorem ab_yE {g : Nat → Nat} {b : Nat → Int32} (H : RY g b) (K : OKg g) {i j : Nat} (hi : i < 64) (hj : j < 64) : b (nI i).toNatClampNeg = b (nI j).toNatClampNeg ↔ g i = g j := by
  rw [ab_yV H hi, ab_yV H hj]; exact nI_eq (ab_sm K hi) (ab_sm K hj)
theorem ab_in {i : Nat} (hi : i < 64) : vp_in (nI i) 64 := vp_in_nI hi (by decide)
theorem ab_end {i : Nat} (h : 64 ≤ i) (hi : i < 2 ^ 31) : (64 : Int32) ≤ nI i := nI_le (a := 64) h hi
theorem ab_nend {i : Nat} (h : i < 64) : ¬ (64 : Int32) ≤ nI i := nI_ge (b := 64) h (by decide)
theorem ab_fe {f l i : Nat} (h : f + l ≤ i) (hi : i < 2 ^ 31) : nI f + nI l ≤ nI i := by
  rw [nI_add]; exact nI_le h hi
theorem ab_fn {f l i : Nat} (h : i < f + l) (hl : f + l < 2 ^ 31) : ¬ nI f + nI l ≤ nI i := by
  rw [nI_add]; exact nI_ge h hl
/-- the number of mapped pages among d from i on -/
def ab_cn (g : Nat → Nat) : Nat → Nat → Nat
  | _, 0 => 0
  | i, d + 1 => (if g i = 0 then 0 else 1) + ab_cn g (i + 1) d
theorem ab_cnS (g : Nat → Nat) (i d : Nat) : ab_cn g i (d + 1) = (if g i = 0 then 0 else 1) + ab_cn g (i + 1) d := rfl
theorem ab_cn_le (g : Nat → Nat) : ∀ d i, ab_cn g i d ≤ d := by
  intro d
  induction d with
  | zero => intro i; exact Nat.le_refl 0
  | succ d ih =>
    intro i
    have h := ih (i + 1)
    rw [ab_cnS]
    split <;> omega
theorem ab_cn_0 (g : Nat → Nat) : ∀ d i, ab_cn g i d = 0 ↔ ∀ j, i ≤ j → j < i + d → g j = 0 := by
  intro d
  induction d with
  | zero => intro i; exact ⟨fun _ j h1 h2 => by omega, fun _ => rfl⟩
  | succ d ih =>
    intro i
    have h := ih (i + 1)
    rw [ab_cnS]
    constructor
    · intro e j h1 h2
      split at e
      · rename_i z
        by_cases hj : j = i
        · rw [hj]; exact z
        · exact h.mp (by omega) j (by omega) (by omega)
      · omega
    · intro e
      rw [if_pos (e i (by omega) (by omega)), h.mpr (fun j h1 h2 => e j (by omega) (by omega))]
theorem ab_cn_all (g : Nat → Nat) : ∀ d i, d ≤ ab_cn g i d → ∀ j, i ≤ j → j < i + d → g j ≠ 0 := by
  intro d
  induction d with
  | zero => intro i _ j h1 h2; omega
  | succ d ih =>
    intro i e j h1 h2
    have h := ab_cn_le g d (i + 1)
    rw [ab_cnS] at e
    split at e
    · omega
    · rename_i z
      by_cases hj : j = i
      · rw [hj]; exact z
      · exact ih (i + 1) (by omega) j (by omega) (by omega)
/-- an area begins at page j -/
def ab_st (g : Nat → Nat) (j : Nat) : Bool := decide (g j ≠ 0 ∧ (j = 0 ∨ g (j - 1) ≠ g j))
theorem ab_stT {g : Nat → Nat} {j : Nat} : ab_st g j = true ↔ g j ≠ 0 ∧ (j = 0 ∨ g (j - 1) ≠ g j) := by
  unfold ab_st; exact decide_eq_true_iff
/-- the number of areas that begin among d pages from i on -/
def ab_ns (g : Nat → Nat) : Nat → Nat → Nat
  | _, 0 => 0
  | i, d + 1 => (if ab_st g i = true then 1 else 0) + ab_ns g (i + 1) d
theorem ab_nsS (g : Nat → Nat) (i d : Nat) : ab_ns g i (d + 1) = (if ab_st g i = true then 1 else 0) + ab_ns g (i + 1) d := rfl
theorem ab_ns_le (g : Nat → Nat) : ∀ d i, ab_ns g i d ≤ d := by
  intro d
  induction d with
  | zero => intro i; exact Nat.le_refl 0
  | succ d ih =>
    intro i
    have h := ih (i + 1)
    rw [ab_nsS]
    split <;> omega
/-- the picture with l pages from f on set to c -/
def ab_fl (g : Nat → Nat) (f l c : Nat) : Nat → Nat := fun j => if f ≤ j ∧ j < f + l then c else g j
theorem ab_flOK {g : Nat → Nat} (K : OKg g) (f l : Nat) {c : Nat} (hc : c ≤ 128) : OKg (ab_fl g f l c) := by
  intro j hj
  unfold ab_fl
  split
  · exact hc
  · exact K j hj
/-- the picture with new rights r on l pages from f on -/
def ab_pt (g : Nat → Nat) (f l r : Nat) : Nat → Nat := fun j => if f ≤ j ∧ j < f + l then (g j - 1) / 8 * 8 + r + 1 else g j
theorem ab_ptOK {g : Nat → Nat} (K : OKg g) (f l : Nat) {r : Nat} (hr : r ≤ 7) : OKg (ab_pt g f l r) := by
  intro j hj
  have h := K j hj
  unfold ab_pt
  split
  · omega
  · exact h
/-- the number of pages with other rights than r among d from i on -/
def ab_pc (g : Nat → Nat) (r : Nat) : Nat → Nat → Nat
  | _, 0 => 0
  | i, d + 1 => (if (g i - 1) % 8 = r then 0 else 1) + ab_pc g r (i + 1) d
theorem ab_pcS (g : Nat → Nat) (r i d : Nat) : ab_pc g r i (d + 1) = (if (g i - 1) % 8 = r then 0 else 1) + ab_pc g r (i + 1) d := rfl
theorem ab_wr : ∀ k, k < 128 → ∀ r, r < 8 → ((nI k &&& (-8)) ||| nI r) = nI (k / 8 * 8 + r) := by decide +kernel
theorem ab_al : ∀ k, k < 128 → ∀ r, r < 8 → ((nI r &&& (nI k ^^^ (-1))) = 0 ↔ (nI k &&& nI r) = nI r) := by decide +kernel
theorem ab_a7 {k : Nat} (hk : k < 128) : nI k &&& 7 = nI (k % 8) := pk_andN (by omega) 3 (by decide)
theorem ab_fr {q n : Nat} (h : n ≤ q + 1) : nI q - nI n + 1 = nI (q + 1 - n) := by
  rw [← pk_sub h, ← nI_1]
  grind
end
section
theorem ab_cmX {g : Nat → Nat} {a : Nat → Int32} (o : Nat → Int32) (H : RX g a) (K : OKg g) (post : Int32 → Prop) (f l : Nat) (hl : f + l ≤ 64) : ∀ (d i : Nat) (x : Int32), i + d = f + l → post (x + nI (ab_cn g i d)) → wX_countMapped_5 post (nI f) (nI l) a o (d + 1) x (nI i) := by
  intro d
  induction d with
  | zero =>
    intro i x hi hp
    refine br_t (ab_fe (by omega) (by omega)) ?_
    have e : x + nI (ab_cn g i 0) = x := ab_s0 x
    rwa [e] at hp
  | succ d ih =>
    intro i x hi hp
    rw [ab_cnS] at hp
    refine br_f (ab_fn (by omega) (by omega)) ⟨ab_in (by omega), ab_if (ab_xF H K (by omega)) (fun z => nm_r (nI_1 i) (ih (i + 1) x (by omega) ?_)) (fun z => nm_e (nm_r (nI_1 i) (ih (i + 1) (x + 1) (by omega) ?_)))⟩
    · rwa [if_pos z, Nat.zero_add] at hp
    · rwa [if_neg z, ab_s1] at hp
theorem ab_cmY {g : Nat → Nat} {b : Nat → Int32} (o : Nat → Int32) (H : RY g b) (K : OKg g) (post : Int32 → Prop) (f l : Nat) (hl : f + l ≤ 64) : ∀ (d i : Nat) (x : Int32), i + d = f + l → post (x + nI (ab_cn g i d)) → wY_used_5 post (nI f) (nI l) b o (d + 1) x (nI i) := by
  intro d
  induction d with
  | zero =>
    intro i x hi hp
    refine br_t (ab_fe (by omega) (by omega)) ?_
    have e : x + nI (ab_cn g i 0) = x := ab_s0 x
    rwa [e] at hp
  | succ d ih =>
    intro i x hi hp
    rw [ab_cnS] at hp
    refine br_f (ab_fn (by omega) (by omega)) ⟨ab_in (by omega), ab_if (ab_yL H K (by omega)) (fun z => nm_r (nI_1 i) (ih (i + 1) x (by omega) ?_)) (fun z => nm_e (nm_r (nI_1 i) (ih (i + 1) (x + 1) (by omega) ?_)))⟩
    · rwa [if_pos z, Nat.zero_add] at hp
    · rwa [if_neg z, ab_s1] at hp
theorem ab_z (m : Nat) : (0 : Int32) + nI m = nI m := Int32.zero_add _
theorem ab_countX {g : Nat → Nat} {a o : Nat → Int32} (H : RX g a) (K : OKg g) {post : Int32 → Prop} {f l : Nat} (hl : f + l ≤ 64) (hp : post (nI (ab_cn g f l))) : wpX_countMapped post (a, o) (nI f) (nI l) :=
  ⟨l + 1, ab_cmX o H K post f l hl l f 0 rfl (by rw [ab_z]; exact hp)⟩
theorem ab_countY {g : Nat → Nat} {b o : Nat → Int32} (H : RY g b) (K : OKg g) {post : Int32 → Prop} {f l : Nat} (hl : f + l ≤ 64) (hp : post (nI (ab_cn g f l))) : wpY_used post (b, o) (nI f) (nI l) :=
  ⟨l + 1, ab_cmY o H K post f l hl l f 0 rfl (by rw [ab_z]; exact hp)⟩
theorem ab_stX {g : Nat → Nat} {a o : Nat → Int32} (H : RX g a) (K : OKg g) {j : Nat} (hj : j < 64) {post : Int32 → Prop} (h1 : ab_st g j = true → post 1) (h0 : ¬ ab_st g j = true → post 0) : wpX_startsArea post (a, o) (nI j) := by
  refine ⟨ab_in hj, ab_if (ab_xF H K hj) (fun z => h0 (fun s => (ab_stT.mp s).1 z)) (fun z => ab_if (ab_eq0 (by omega)) (fun e => h1 (ab_stT.mpr ⟨z, Or.inl e⟩)) (fun e => ?_))⟩
  rw [ab_pd (by omega)]
  refine ⟨ab_in (by omega), ab_in hj, ab_if (ab_xE H K (by omega) hj) (fun w => h0 (fun s => ?_)) (fun w => h1 (ab_stT.mpr ⟨z, Or.inr w⟩))⟩
  rcases (ab_stT.mp s).2 with q | q
  · exact e q
  · exact q w
theorem ab_stY {g : Nat → Nat} {b o : Nat → Int32} (H : RY g b) (K : OKg g) {j : Nat} (hj : j < 64) {post : Int32 → Prop} (h1 : ab_st g j = true → post 1) (h0 : ¬ ab_st g j = true → post 0) : wpY_begins post (b, o) (nI j) := by
  refine ⟨ab_in hj, ab_if (ab_yL H K hj) (fun z => h0 (fun s => (ab_stT.mp s).1 z)) (fun z => ab_if (ab_eq0 (by omega)) (fun e => h1 (ab_stT.mpr ⟨z, Or.inl e⟩)) (fun e => ?_))⟩
  rw [ab_pd (by omega)]
  refine ⟨ab_in (by omega), ab_in hj, ab_if (ab_yE H K (by omega) hj) (fun w => h0 (fun s => ?_)) (fun w => h1 (ab_stT.mpr ⟨z, Or.inr w⟩))⟩
  rcases (ab_stT.mp s).2 with q | q
  · exact e q
  · exact q w
theorem ab_10 : ¬ (1 : Int32) = 0 := by decide
theorem ab_caX {g : Nat → Nat} {a : Nat → Int32} (o : Nat → Int32) (H : RX g a) (K : OKg g) (post : Int32 → Prop) (L : Nat) (hL : L < 64) : ∀ (d i : Nat) (x : Int32), i + d = L + 1 → post (x + nI (ab_ns g i d)) → wX_countAreasTo_4 post (nI L) a o (d + 1) x (nI i) := by
  intro d
  induction d with
  | zero =>
    intro i x hi hp
    refine br_t (nI_lt (by omega) (by omega)) ?_
    have e : x + nI (ab_ns g i 0) = x := ab_s0 x
    rwa [e] at hp
  | succ d ih =>
    intro i x hi hp
    rw [ab_nsS] at hp
    refine br_f (nI_nlt (by omega) (by omega)) ?_
    refine ab_stX H K (by omega) ?_ ?_
    · intro s
      refine br_f ab_10 (nm_e (nm_r (nI_1 i) (ih (i + 1) (x + 1) (by omega) ?_)))
      rwa [if_pos s, ab_s1] at hp
    · intro s
      refine br_t rfl (nm_r (nI_1 i) (ih (i + 1) x (by omega) ?_))
      rwa [if_neg s, Nat.zero_add] at hp
theorem ab_caY {g : Nat → Nat} {b : Nat → Int32} (o : Nat → Int32) (H : RY g b) (K : OKg g) (post : Int32 → Prop) : ∀ (d i : Nat) (x : Int32), i + d = 64 → post (x + nI (ab_ns g i d)) → wY_areas_4 post b o (d + 1) x (nI i) := by
  intro d
  induction d with
  | zero =>
    intro i x hi hp
    refine br_t (ab_end (by omega) (by omega)) ?_
    have e : x + nI (ab_ns g i 0) = x := ab_s0 x
    rwa [e] at hp
  | succ d ih =>
    intro i x hi hp
    rw [ab_nsS] at hp
    refine br_f (ab_nend (by omega)) ?_
    refine ab_stY H K (by omega) ?_ ?_
    · intro s
      refine br_f ab_10 (nm_e (nm_r (nI_1 i) (ih (i + 1) (x + 1) (by omega) ?_)))
      rwa [if_pos s, ab_s1] at hp
    · intro s
      refine br_t rfl (nm_r (nI_1 i) (ih (i + 1) x (by omega) ?_))
      rwa [if_neg s, Nat.zero_add] at hp
theorem ab_aoY {g : Nat → Nat} {b : Nat → Int32} (o : Nat → Int32) (H : RY g b) (K : OKg g) (post : Int32 → Prop) (L : Nat) (hL : L < 64) : ∀ (d i : Nat) (x : Int32), i + d = L + 1 → post (x + nI (ab_ns g i d)) → wY_areaOf_24 post (nI L) b o (d + 1) x (nI i) := by
  intro d
  induction d with
  | zero =>
    intro i x hi hp
    refine br_t (nI_lt (by omega) (by omega)) ?_
    have e : x + nI (ab_ns g i 0) = x := ab_s0 x
    rwa [e] at hp
  | succ d ih =>
    intro i x hi hp
    rw [ab_nsS] at hp
    refine br_f (nI_nlt (by omega) (by omega)) ?_
    refine ab_stY H K (by omega) ?_ ?_
    · intro s
      refine br_f ab_10 (nm_e (nm_r (nI_1 i) (ih (i + 1) (x + 1) (by omega) ?_)))
      rwa [if_pos s, ab_s1] at hp
    · intro s
      refine br_t rfl (nm_r (nI_1 i) (ih (i + 1) x (by omega) ?_))
      rwa [if_neg s, Nat.zero_add] at hp
theorem ab_areasX {g : Nat → Nat} {a o : Nat → Int32} (H : RX g a) (K : OKg g) {post : Int32 → Prop} {L : Nat} (hL : L < 64) (hp : post (nI (ab_ns g 0 (L + 1)))) : wpX_countAreasTo post (a, o) (nI L) :=
  ⟨L + 1 + 1, ab_caX o H K post L hL (L + 1) 0 0 (by omega) (by rw [ab_z]; exact hp)⟩
theorem ab_areasY {g : Nat → Nat} {b o : Nat → Int32} (H : RY g b) (K : OKg g) {post : Int32 → Prop} (hp : post (nI (ab_ns g 0 64))) : wpY_areas post (b, o) :=
  ⟨64 + 1, ab_caY o H K post 64 0 0 (by omega) (by rw [ab_z]; exact hp)⟩
theorem ab_put {a p : Nat → Int32} {i : Nat} {x : Int32} (hi : i < 64) (h : ∀ j, j < i → a j = p j) (hx : x = p i) : ∀ j, j < i + 1 → upd a (nI i).toNatClampNeg x j = p j := by
  intro j hj
  rw [nI_clamp (by omega)]
  by_cases e : j = i
  · rw [e, pk_us]; exact hx
  · rw [pk_un e]; exact h j (by omega)
theorem ab_koX {g : Nat → Nat} {a : Nat → Int32} (H : RX g a) (post : SX → Prop) (h : ∀ o', RX g o' → post (a, o')) : ∀ (d i : Nat) (o : Nat → Int32), i + d = 64 → (∀ j, j < i → o j = nI (g j) - 1) → wX_keepOld_2 post (d + 1) (nI i) a o := by
  intro d
  induction d with
  | zero =>
    intro i o hi hp
    exact br_t (ab_end (by omega) (by omega)) (h o (fun j hj => hp j (by omega)))
  | succ d ih =>
    intro i o hi hp
    have hi' : i < 64 := by omega
    exact br_f (ab_nend hi') ⟨ab_in hi', ab_in hi', nm_e (nm_r (nI_1 i) (ih (i + 1) _ (by omega) (ab_put (p := fun j => nI (g j) - 1) hi' hp (ab_xV H hi'))))⟩
theorem ab_keepX {g : Nat → Nat} {a o : Nat → Int32} (H : RX g a) {post : SX → Prop} (h : ∀ o', RX g o' → post (a, o')) : wpX_keepOld post (a, o) :=
  ⟨64 + 1, ab_koX H post h 64 0 o (by omega) (fun j hj => absurd hj (Nat.not_lt_zero j))⟩
theorem ab_koY {g : Nat → Nat} {b : Nat → Int32} (H : RY g b) (post : SY → Prop) (h : ∀ o', RY g o' → post (b, o')) : ∀ (d i : Nat) (o : Nat → Int32), i + d = 64 → (∀ j, j < i → o j = nI (g j)) → wY_keep_2 post (d + 1) (nI i) b o := by
  intro d
  induction d with
  | zero =>
    intro i o hi hp
    exact br_t (ab_end (by omega) (by omega)) (h o (fun j hj => hp j (by omega)))
  | succ d ih =>
    intro i o hi hp
    have hi' : i < 64 := by omega
    exact br_f (ab_nend hi') ⟨ab_in hi', ab_in hi', nm_e (nm_r (nI_1 i) (ih (i + 1) _ (by omega) (ab_put (p := fun j => nI (g j)) hi' hp (ab_yV H hi'))))⟩
theorem ab_keepY {g : Nat → Nat} {b o : Nat → Int32} (H : RY g b) {post : SY → Prop} (h : ∀ o', RY g o' → post (b, o')) : wpY_keep post (b, o) :=
  ⟨64 + 1, ab_koY H post h 64 0 o (by omega) (fun j hj => absurd hj (Nat.not_lt_zero j))⟩
theorem ab_udX {g : Nat → Nat} {o : Nat → Int32} (H : RX g o) (post : Int32 → SX → Prop) (h : ∀ a', RX g a' → post 0 (a', o)) : ∀ (d i : Nat) (a : Nat → Int32), i + d = 64 → (∀ j, j < i → a j = nI (g j) - 1) → wX_acceptOrUndo_15 post (d + 1) (nI i) a o := by
  intro d
  induction d with
  | zero =>
    intro i a hi hp
    exact br_t (ab_end (by omega) (by omega)) (h a (fun j hj => hp j (by omega)))
  | succ d ih =>
    intro i a hi hp
    have hi' : i < 64 := by omega
    exact br_f (ab_nend hi') ⟨ab_in hi', ab_in hi', nm_e (nm_r (nI_1 i) (ih (i + 1) _ (by omega) (ab_put (p := fun j => nI (g j) - 1) hi' hp (ab_xV H hi'))))⟩
theorem ab_udY {g : Nat → Nat} {o : Nat → Int32} (H : RY g o) (post : Int32 → SY → Prop) (h : ∀ b', RY g b' → post 1 (b', o)) : ∀ (d i : Nat) (b : Nat → Int32), i + d = 64 → (∀ j, j < i → b j = nI (g j)) → wY_tooMany_17 post 1 (d + 1) (nI i) b o := by
  intro d
  induction d with
  | zero =>
    intro i b hi hp
    exact br_t (ab_end (by omega) (by omega)) ⟨rfl, h b (fun j hj => hp j (by omega))⟩
  | succ d ih =>
    intro i b hi hp
    have hi' : i < 64 := by omega
    exact br_f (ab_nend hi') (br_f ab_10 ⟨ab_in hi', ab_in hi', nm_e (nm_r (nI_1 i) (ih (i + 1) _ (by omega) (ab_put (p := fun j => nI (g j)) hi' hp (ab_yV H hi'))))⟩)
theorem ab_accX {g g0 : Nat → Nat} {a o : Nat → Int32} (H : RX g a) (K : OKg g) (Ho : RX g0 o) {post : Int32 → SX → Prop} (h1 : ab_ns g 0 64 ≤ 20 → post 1 (a, o)) (h0 : 20 < ab_ns g 0 64 → ∀ a', RX g0 a' → post 0 (a', o)) : wpX_acceptOrUndo post (a, o) := by
  have hn := ab_ns_le g 64 0
  unfold wpX_acceptOrUndo
  dsimp only
  refine ab_areasX (L := 63) H K (by decide) ?_
  by_cases c : 20 < ab_ns g 0 64
  · exact br_t (nI_lt (a := 20) (b := ab_ns g 0 64) c (by omega)) ⟨64 + 1, ab_udX Ho post (h0 c) 64 0 a (by omega) (fun j hj => absurd hj (Nat.not_lt_zero j))⟩
  · exact br_f (nI_nlt (b := ab_ns g 0 64) (a := 20) (by omega) (by decide)) (h1 (by omega))
theorem ab_tmY {g g0 : Nat → Nat} {b o : Nat → Int32} (H : RY g b) (K : OKg g) (Ho : RY g0 o) {post : Int32 → SY → Prop} (h0 : ab_ns g 0 64 ≤ 20 → post 0 (b, o)) (h1 : 20 < ab_ns g 0 64 → ∀ b', RY g0 b' → post 1 (b', o)) : wpY_tooMany post (b, o) := by
  have hn := ab_ns_le g 64 0
  unfold wpY_tooMany
  dsimp only
  refine ab_areasY H K ?_
  by_cases c : 20 < ab_ns g 0 64
  · exact br_f (nI_ge (a := 20) c (by omega)) ⟨64 + 1, ab_udY Ho post (h1 c) 64 0 b (by omega) (fun j hj => absurd hj (Nat.not_lt_zero j))⟩
  · exact br_t (nI_le (b := 20) (by omega) (by decide)) ⟨1, br_f (by decide) (br_t rfl ⟨rfl, h0 (by omega)⟩)⟩
end
section
theorem ab_flK {g : Nat → Nat} {f m c : Nat} {j : Nat} (h : j ≠ f + m) : ab_fl g f (m + 1) c j = ab_fl g f m c j := by
  unfold ab_fl
  by_cases e : f ≤ j ∧ j < f + m
  · rw [if_pos e, if_pos (by omega)]
  · rw [if_neg e, if_neg (by omega)]
theorem ab_flN {g : Nat → Nat} {f m c : Nat} : ab_fl g f (m + 1) c (f + m) = c := if_pos ⟨by omega, by omega⟩
theorem ab_fl0 {g : Nat → Nat} {f c : Nat} : ab_fl g f 0 c = g := by
  funext j
  exact if_neg (by omega)
theorem ab_ptK {g : Nat → Nat} {f m r : Nat} {j : Nat} (h : j ≠ f + m) : ab_pt g f (m + 1) r j = ab_pt g f m r j := by
  unfold ab_pt
  by_cases e : f ≤ j ∧ j < f + m
  · rw [if_pos e, if_pos (by omega)]
  · rw [if_neg e, if_neg (by omega)]
theorem ab_ptN {g : Nat → Nat} {f m r : Nat} : ab_pt g f (m + 1) r (f + m) = (g (f + m) - 1) / 8 * 8 + r + 1 := if_pos ⟨by omega, by omega⟩
theorem ab_ptO {g : Nat → Nat} {f m r : Nat} : ab_pt g f m r (f + m) = g (f + m) := if_neg (by omega)
theorem ab_pt0 {g : Nat → Nat} {f r : Nat} : ab_pt g f 0 r = g := by
  funext j
  exact if_neg (by omega)
theorem ab_setX {g g' : Nat → Nat} {a : Nat → Int32} {i : Nat} {x : Int32} (hi : i < 64) (H : RX g a) (hk : ∀ j, j ≠ i → g' j = g j) (hx : x = nI (g' i) - 1) : RX g' (upd a (nI i).toNatClampNeg x) := by
  intro j hj
  rw [nI_clamp (by omega)]
  by_cases e : j = i
  · rw [e, pk_us]; exact hx
  · rw [pk_un e, hk j e]; exact H j hj
theorem ab_setY {g g' : Nat → Nat} {b : Nat → Int32} {i : Nat} {x : Int32} (hi : i < 64) (H : RY g b) (hk : ∀ j, j ≠ i → g' j = g j) (hx : x = nI (g' i)) : RY g' (upd b (nI i).toNatClampNeg x) := by
  intro j hj
  rw [nI_clamp (by omega)]
  by_cases e : j = i
  · rw [e, pk_us]; exact hx
  · rw [pk_un e, hk j e]; exact H j hj
theorem ab_flX {g g0 : Nat → Nat} (K : OKg g) (post : Int32 → SX → Prop) (f l c : Nat) (hl : f + l ≤ 64) (hc : c ≤ 128) {x : Int32} (hx : x = nI c - 1) {o : Nat → Int32} (Ho : RX g0 o) (h1 : ab_ns (ab_fl g f l c) 0 64 ≤ 20 → ∀ a', RX (ab_fl g f l c) a' → post 1 (a', o)) (h0 : 20 < ab_ns (ab_fl g f l c) 0 64 → ∀ a', RX g0 a' → post 0 (a', o)) : ∀ (d m : Nat) (a : Nat → Int32), m + d = l → RX (ab_fl g f m c) a → wX_fill_7 post (nI f) (nI l) x (d + 1) (nI (f + m)) a o := by
  intro d
  induction d with
  | zero =>
    intro m a hm H
    have e : m = l := by omega
    subst e
    refine br_t (ab_fe (by omega) (by omega)) ?_
    exact ab_accX H (ab_flOK K f m hc) Ho (fun z => ⟨rfl, h1 z a H⟩) (fun z a' H' => ⟨rfl, h0 z a' H'⟩)
  | succ d ih =>
    intro m a hm H
    refine br_f (ab_fn (by omega) (by omega)) ⟨ab_in (by omega), nm_e (nm_r (nI_1 (f + m)) (ih (m + 1) _ (by omega) ?_))⟩
    exact ab_setX (by omega) H (fun j hj => ab_flK hj) (by rw [ab_flN]; exact hx)
theorem ab_fillX {g : Nat → Nat} {a o : Nat → Int32} (H : RX g a) (K : OKg g) {post : Int32 → SX → Prop} {f l c : Nat} (hl : f + l ≤ 64) (hc : c ≤ 128) {x : Int32} (hx : x = nI c - 1) (h1 : ab_ns (ab_fl g f l c) 0 64 ≤ 20 → ∀ a' o', RX (ab_fl g f l c) a' → post 1 (a', o')) (h0 : 20 < ab_ns (ab_fl g f l c) 0 64 → ∀ a' o', RX g a' → post 0 (a', o')) : wpX_fill post (a, o) (nI f) (nI l) x := by
  unfold wpX_fill
  dsimp only
  refine ab_keepX H (fun o' Ho => ⟨l + 1, ?_⟩)
  exact ab_flX K post f l c hl hc hx Ho (fun z a' H' => h1 z a' o' H') (fun z a' H' => h0 z a' o' H') l 0 a (by omega) (by rw [ab_fl0]; exact H)
theorem ab_flY {g : Nat → Nat} (post : SY → Prop) (f l c : Nat) (hl : f + l ≤ 64) {x : Int32} (hx : x = nI c) {o : Nat → Int32} (h : ∀ b', RY (ab_fl g f l c) b' → post (b', o)) : ∀ (d m : Nat) (b : Nat → Int32), m + d = l → RY (ab_fl g f m c) b → wY_fill_3 post (nI f) (nI l) x (d + 1) (nI (f + m)) b o := by
  intro d
  induction d with
  | zero =>
    intro m b hm H
    have e : m = l := by omega
    subst e
    exact br_t (ab_fe (by omega) (by omega)) (h b H)
  | succ d ih =>
    intro m b hm H
    refine br_f (ab_fn (by omega) (by omega)) ⟨ab_in (by omega), nm_e (nm_r (nI_1 (f + m)) (ih (m + 1) _ (by omega) ?_))⟩
    exact ab_setY (by omega) H (fun j hj => ab_flK hj) (by rw [ab_flN]; exact hx)
theorem ab_fillY {g : Nat → Nat} {b o : Nat → Int32} (H : RY g b) {post : SY → Prop} {f l c : Nat} (hl : f + l ≤ 64) {x : Int32} (hx : x = nI c) (h : ∀ b', RY (ab_fl g f l c) b' → post (b', o)) : wpY_fill post (b, o) (nI f) (nI l) x :=
  ⟨l + 1, ab_flY post f l c hl hx h l 0 b (by omega) (by rw [ab_fl0]; exact H)⟩
theorem ab_k1 {c : Nat} (h : c ≠ 0) : nI c - 1 = nI (c - 1) := ab_pd (by omega)
theorem ab_plX {g g0 : Nat → Nat} (K : OKg g) (post : Int32 → SX → Prop) (f l r : Nat) (hl : f + l ≤ 64) (hr : r ≤ 7) (hm : ∀ j, f ≤ j → j < f + l → g j ≠ 0) {o : Nat → Int32} (Ho : RX g0 o) : ∀ (d m : Nat) (x : Int32) (a : Nat → Int32), m + d = l → RX (ab_pt g f m r) a → (ab_ns (ab_pt g f l r) 0 64 ≤ 20 → ∀ a', RX (ab_pt g f l r) a' → post (x + nI (ab_pc g r (f + m) d)) (a', o)) → (20 < ab_ns (ab_pt g f l r) 0 64 → ∀ a', RX g0 a' → post (-2) (a', o)) → wX_protect_40 post (nI f) (nI l) (nI r) (d + 1) x (nI (f + m)) a o := by
  intro d
  induction d with
  | zero =>
    intro m x a hm H h1 h0
    have e : m = l := by omega
    subst e
    refine br_t (ab_fe (by omega) (by omega)) ?_
    have e : x + nI (ab_pc g r (f + m) 0) = x := ab_s0 x
    rw [e] at h1
    exact ab_accX H (ab_ptOK K f m hr) Ho (fun z => br_f ab_10 (h1 z a H)) (fun z a' H' => br_t rfl (h0 z a' H'))
  | succ d ih =>
    intro m x a hm' H h1 h0
    have hi : f + m < 64 := by omega
    have hg := hm (f + m) (by omega) (by omega)
    have hK := K (f + m) hi
    have hv : a (nI (f + m)).toNatClampNeg = nI (g (f + m) - 1) := by
      rw [ab_xV H hi, ab_ptO]; exact ab_k1 hg
    refine br_f (ab_fn (by omega) (by omega)) ⟨ab_in hi, ?_⟩
    rw [hv]
    unfold wpX_rightsIn
    rw [ab_a7 (by omega)]
    rw [ab_pcS] at h1
    refine ab_if (nI_eq (by omega) (by omega)) (fun z => nm_r (nI_1 (f + m)) (ih (m + 1) x a (by omega) ?_ ?_ h0)) (fun z => ⟨ab_in hi, ?_⟩)
    · intro j hj
      by_cases e : j = f + m
      · rw [e, ab_ptN, H (f + m) hi, ab_ptO]
        have e2 : (g (f + m) - 1) / 8 * 8 + r + 1 = g (f + m) := by omega
        rw [e2]
      · rw [ab_ptK e]; exact H j hj
    · rw [if_pos z, Nat.zero_add, Nat.add_assoc f m 1] at h1; exact h1
    · unfold wpX_withRights
      rw [ab_wr _ (by omega) _ (by omega)]
      refine ⟨ab_in hi, nm_e (nm_e (nm_r (nI_1 (f + m)) (ih (m + 1) (x + 1) _ (by omega) ?_ ?_ h0)))⟩
      · exact ab_setX hi H (fun j hj => ab_ptK hj) (by rw [ab_ptN, nI_pred])
      · rw [if_neg z, ab_s1, Nat.add_assoc f m 1] at h1; exact h1
theorem ab_plY {g g0 : Nat → Nat} (K : OKg g) (post : Int32 → SY → Prop) (f l r : Nat) (hl : f + l ≤ 64) (hr : r ≤ 7) (hm : ∀ j, f ≤ j → j < f + l → g j ≠ 0) {o : Nat → Int32} (Ho : RY g0 o) : ∀ (d m : Nat) (x : Int32) (b : Nat → Int32), m + d = l → RY (ab_pt g f m r) b → (ab_ns (ab_pt g f l r) 0 64 ≤ 20 → ∀ b', RY (ab_pt g f l r) b' → post (x + nI (ab_pc g r (f + m) d)) (b', o)) → (20 < ab_ns (ab_pt g f l r) 0 64 → ∀ b', RY g0 b' → post (-2) (b', o)) → wY_protect_44 post (nI f) (nI l) (nI r) (d + 1) x (nI (f + m)) b o := by
  intro d
  induction d with
  | zero =>
    intro m x b hm H h1 h0
    have e : m = l := by omega
    subst e
    refine br_t (ab_fe (by omega) (by omega)) ?_
    have e : x + nI (ab_pc g r (f + m) 0) = x := ab_s0 x
    rw [e] at h1
    exact ab_tmY H (ab_ptOK K f m hr) Ho (fun z => br_t rfl (h1 z b H)) (fun z b' H' => br_f ab_10 (h0 z b' H'))
  | succ d ih =>
    intro m x b hm' H h1 h0
    have hi : f + m < 64 := by omega
    have hg := hm (f + m) (by omega) (by omega)
    have hK := K (f + m) hi
    have hv : b (nI (f + m)).toNatClampNeg - 1 = nI (g (f + m) - 1) := by
      rw [ab_yV H hi, ab_ptO]; exact ab_k1 hg
    rw [ab_pcS] at h1
    refine br_f (ab_fn (by omega) (by omega)) ⟨ab_in hi, nm_r hv ?_⟩
    rw [ab_a7 (by omega)]
    have hs : RY (ab_pt g f (m + 1) r) (upd b (nI (f + m)).toNatClampNeg (((nI (g (f + m) - 1) &&& (-8)) ||| nI r) + 1)) :=
      ab_setY hi H (fun j hj => ab_ptK hj) (by rw [ab_ptN, ab_wr _ (by omega) _ (by omega), nI_1])
    refine ab_if (nI_eq (by omega) (by omega)) (fun z => ⟨ab_in hi, nm_e (nm_r (nI_1 (f + m)) (ih (m + 1) x _ (by omega) hs ?_ h0))⟩) (fun z => ⟨ab_in hi, nm_e (nm_r (nI_1 (f + m)) (ih (m + 1) (x + 1) _ (by omega) hs ?_ h0))⟩)
    · rw [if_pos z, Nat.zero_add, Nat.add_assoc f m 1] at h1; exact h1
    · rw [if_neg z, ab_s1, Nat.add_assoc f m 1] at h1; exact h1
/-- l pages from p on are free, and within -/
def ab_Sp (g : Nat → Nat) (l p : Nat) : Prop := p + l ≤ 64 ∧ ∀ j, p ≤ j → j < p + l → g j = 0
theorem ab_frX {g : Nat → Nat} {a : Nat → Int32} (o : Nat → Int32) (H : RX g a) (K : OKg g) (post : Int32 → Prop) (s l : Nat) (hl : 1 ≤ l) (hl' : l < 2 ^ 31) (h1 : ∀ p, s ≤ p → ab_Sp g l p → (∀ q, s ≤ q → q < p → ¬ ab_Sp g l q) → post (nI p)) (h0 : (∀ q, s ≤ q → ¬ ab_Sp g l q) → post (-3)) : ∀ (d q r : Nat), q + d = 64 → s + r ≤ q → r < l → (∀ j, q ≤ j + r → j < q → g j = 0) → (s + r = q ∨ (s + r + 1 ≤ q ∧ g (q - r - 1) ≠ 0)) → (∀ p, s ≤ p → p + l ≤ q → ¬ ab_Sp g l p) → wX_findRoom_5 post (nI l) a o (d + 1) (nI r) (nI q) := by
  intro d
  induction d with
  | zero =>
    intro q r hq hr hrl hf hb hn
    refine br_t (ab_end (by omega) (by omega)) (h0 (fun p hp sp => hn p hp ?_ sp))
    have := sp.1
    omega
  | succ d ih =>
    intro q r hq hr hrl hf hb hn
    have hi : q < 64 := by omega
    refine br_f (ab_nend hi) ⟨ab_in hi, ab_if (ab_xF H K hi) (fun z => ?_) (fun z => ?_)⟩
    · rw [nI_1 r]
      refine ab_if (nI_eq (by omega) hl') (fun e => ?_) (fun e => ?_)
      · rw [ab_fr (by omega)]
        refine h1 (q + 1 - l) (by omega) ⟨by omega, fun j h2 h3 => ?_⟩ (fun p hp hp' => hn p hp (by omega))
        by_cases ej : j = q
        · rw [ej]; exact z
        · exact hf j (by omega) (by omega)
      · refine nm_r (nI_1 q) (ih (q + 1) (r + 1) (by omega) (by omega) (by omega) ?_ ?_ ?_)
        · intro j h2 h3
          by_cases ej : j = q
          · rw [ej]; exact z
          · exact hf j (by omega) (by omega)
        · rcases hb with hb | hb
          · exact Or.inl (by omega)
          · refine Or.inr ⟨by omega, ?_⟩
            have e2 : q + 1 - (r + 1) - 1 = q - r - 1 := by omega
            rw [e2]; exact hb.2
        · intro p hp hpl sp
          by_cases e3 : p + l ≤ q
          · exact hn p hp e3 sp
          · rcases hb with hb | hb
            · omega
            · exact hb.2 (sp.2 (q - r - 1) (by omega) (by omega))
    · refine br_f (fun e => ?_) (nm_r (nI_1 q) (ih (q + 1) 0 (by omega) (by omega) (by omega) ?_ ?_ ?_))
      · exact nI_ne0 (by omega) hl' e.symm
      · intro j h2 h3; omega
      · exact Or.inr ⟨by omega, z⟩
      · intro p hp hpl sp
        by_cases e3 : p + l ≤ q
        · exact hn p hp e3 sp
        · exact z (sp.2 q (by omega) (by omega))
theorem ab_roomX {g : Nat → Nat} {a o : Nat → Int32} (H : RX g a) (K : OKg g) {post : Int32 → Prop} {s l : Nat} (hs : s ≤ 63) (hl : 1 ≤ l) (hl' : l < 2 ^ 31) (h1 : ∀ p, s ≤ p → ab_Sp g l p → (∀ q, s ≤ q → q < p → ¬ ab_Sp g l q) → post (nI p)) (h0 : (∀ q, s ≤ q → ¬ ab_Sp g l q) → post (-3)) : wpX_findRoom post (a, o) (nI s) (nI l) :=
  ⟨64 - s + 1, ab_frX o H K post s l hl hl' h1 h0 (64 - s) s 0 (by omega) (by omega) (by omega) (fun j h2 h3 => by omega) (Or.inl rfl) (fun p hp hpl => by omega)⟩
theorem ab_prY {p l : Nat} (v : SY) (hp : p < 64) (hl : 1 ≤ l) (hl' : l < 2 ^ 31) {post : Int32 → Prop} (h1 : p + l ≤ 64 → post 1) (h0 : 64 < p + l → post 0) : wpY_proper post v (nI p) (nI l) := by
  have e : (64 : Int32) - nI p = nI (64 - p) := pk_sub (a := 64) (by omega)
  refine br_f (nI_pos (by omega)) (br_f (nI_nlt (a := 63) (by omega) (by decide)) (br_f (nI_nlt (b := 1) hl hl') ?_))
  rw [e]
  exact ab_if (nI_ltI (by omega) hl') (fun z => h0 (by omega)) (fun z => h1 (by omega))
theorem ab_rmY {g : Nat → Nat} {b : Nat → Int32} (o : Nat → Int32) (H : RY g b) (K : OKg g) (post : Int32 → Prop) (l e : Nat) (hl : 1 ≤ l) (hl' : l < 2 ^ 31) (he : e ≤ 64) (hs : wY_room_2 post (nI l) b o 1 (nI e)) : ∀ (d i : Nat), i + d = e → (∀ q, i ≤ q → q < e → ¬ ab_Sp g l q) → wY_room_2 post (nI l) b o (d + 1) (nI i) := by
  intro d
  induction d with
  | zero =>
    intro i hi _
    have : i = e := by omega
    rw [this]; exact hs
  | succ d ih =>
    intro i hi hn
    have hi' : i < 64 := by omega
    have hx := ih (i + 1) (by omega) (fun q h1 h2 => hn q (by omega) h2)
    refine br_f (ab_nend hi') (ab_prY _ hi' hl hl' (fun h1 => ?_) (fun h0 => br_t rfl (nm_r (nI_1 i) hx)))
    refine br_f ab_10 (ab_countY H K h1 ?_)
    refine ab_if (ab_eq0 (Nat.lt_of_le_of_lt (ab_cn_le g l i) hl')) (fun z => ?_) (fun z => nm_r (nI_1 i) hx)
    exact absurd ⟨h1, (ab_cn_0 g l i).mp z⟩ (hn i (by omega) (by omega))
theorem ab_roomY1 {g : Nat → Nat} {b o : Nat → Int32} (H : RY g b) (K : OKg g) {post : Int32 → Prop} {s l p : Nat} (hl : 1 ≤ l) (hl' : l < 2 ^ 31) (hp : s ≤ p) (sp : ab_Sp g l p) (hn : ∀ q, s ≤ q → q < p → ¬ ab_Sp g l q) (h : post (nI p)) : wpY_room post (b, o) (nI s) (nI l) := by
  have h64 := sp.1
  refine ⟨p - s + 1, ab_rmY o H K post l p hl hl' (by omega) ?_ (p - s) s (by omega) hn⟩
  refine br_f (ab_nend (by omega)) (ab_prY _ (by omega) hl hl' (fun h1 => br_f ab_10 (ab_countY H K h1 ?_)) (fun h0 => absurd h0 (by omega)))
  exact br_t ((ab_eq0 (Nat.lt_of_le_of_lt (ab_cn_le g l p) hl')).mpr ((ab_cn_0 g l p).mpr sp.2)) h
theorem ab_roomY0 {g : Nat → Nat} {b o : Nat → Int32} (H : RY g b) (K : OKg g) {post : Int32 → Prop} {s l : Nat} (hs : s ≤ 63) (hl : 1 ≤ l) (hl' : l < 2 ^ 31) (hn : ∀ q, s ≤ q → ¬ ab_Sp g l q) (h : post (-1)) : wpY_room post (b, o) (nI s) (nI l) :=
  ⟨64 - s + 1, ab_rmY o H K post l 64 hl hl' (by omega) (br_t (ab_end (by omega) (by decide)) h) (64 - s) s (by omega) (fun q h1 _ => hn q h1)⟩
end
section
/-- the proper span, on both sides -/
theorem ab_pr (x y : Int32) : ((∀ post : Int32 → Prop, post 0 → wpX_isProper post x y) ∧ (∀ (post : Int32 → Prop) (v : SY), post 0 → wpY_proper post v x y)) ∨ ∃ f l : Nat, x = nI f ∧ y = nI l ∧ 1 ≤ l ∧ f + l ≤ 64 ∧ (∀ post : Int32 → Prop, post 1 → wpX_isProper post x y) ∧ (∀ (post : Int32 → Prop) (v : SY), post 1 → wpY_proper post v x y) := by
  rcases ab_tri x 63 (by decide) with h | ⟨h, h1, _, h2⟩ | ⟨f, hf, rfl⟩
  · exact Or.inl ⟨fun post hp => br_t h (br_t rfl hp), fun post v hp => br_t h hp⟩
  · exact Or.inl ⟨fun post hp => br_f h (br_t h2 (br_t rfl hp)), fun post v hp => br_f h (br_t h1 hp)⟩
  · have a0 : ¬ nI f < 0 := nI_pos (by omega)
    have a1 : ¬ (64 : Int32) ≤ nI f := ab_nend (by omega)
    have a2 : ¬ (63 : Int32) < nI f := nI_nlt (a := 63) hf (by decide)
    by_cases hy : y < 1
    · exact Or.inl ⟨fun post hp => br_f a0 (br_f a1 (br_f ab_10 (br_t hy hp))), fun post v hp => br_f a0 (br_f a2 (br_t hy hp))⟩
    · have hy0 : ¬ y < 0 := fun z => hy (Int32.lt_trans z (by decide))
      obtain ⟨l, hl, rfl⟩ := nI_of hy0
      have hl1 : 1 ≤ l := by
        rcases Nat.lt_or_ge l 1 with z | z
        · exact absurd (nI_lt (b := 1) z (by decide)) hy
        · exact z
      have e : (64 : Int32) - nI f = nI (64 - f) := pk_sub (a := 64) (by omega)
      by_cases c : 64 - f < l
      · have c' : (64 : Int32) - nI f < nI l := by rw [e]; exact nI_lt c hl
        exact Or.inl ⟨fun post hp => br_f a0 (br_f a1 (br_f ab_10 (br_f hy (br_t c' hp)))), fun post v hp => br_f a0 (br_f a2 (br_f hy (br_t c' hp)))⟩
      · have c' : ¬ (64 : Int32) - nI f < nI l := by rw [e]; exact nI_nlt (by omega) (by omega)
        exact Or.inr ⟨f, l, rfl, rfl, hl1, by omega, fun post hp => br_f a0 (br_f a1 (br_f ab_10 (br_f hy (br_f c' hp)))), fun post v hp => br_f a0 (br_f a2 (br_f hy (br_f c' hp)))⟩
/-- the page, on both sides -/
theorem ab_pg (x : Int32) : ((∀ post : Int32 → Prop, post 0 → wpX_isPage post x) ∧ (∀ (post : Int32 → Prop) (v : SY), post 0 → wpY_page post v x)) ∨ ∃ p : Nat, p < 64 ∧ x = nI p ∧ (∀ post : Int32 → Prop, post 1 → wpX_isPage post x) ∧ (∀ (post : Int32 → Prop) (v : SY), post 1 → wpY_page post v x) := by
  rcases ab_tri x 63 (by decide) with h | ⟨h, h1, _, h2⟩ | ⟨f, hf, rfl⟩
  · exact Or.inl ⟨fun post hp => br_t h hp, fun post v hp => br_t h hp⟩
  · exact Or.inl ⟨fun post hp => br_f h (br_t h2 hp), fun post v hp => br_f h (br_t h1 hp)⟩
  · have a0 : ¬ nI f < 0 := nI_pos (by omega)
    have a1 : ¬ (64 : Int32) ≤ nI f := ab_nend (by omega)
    have a2 : ¬ (63 : Int32) < nI f := nI_nlt (a := 63) hf (by decide)
    exact Or.inr ⟨f, by omega, rfl, fun post hp => br_f a0 (br_f a1 hp), fun post v hp => br_f a0 (br_f a2 hp)⟩
/-- the first page of an area, in lockstep -/
theorem ab_af {g : Nat → Nat} {a b : Nat → Int32} (o q : Nat → Int32) (H : RX g a) (J : RY g b) (K : OKg g) (w : Int32) : ∀ (d i : Nat) (x y : Int32), i + d = 64 → x + 1 = y → ∃ r : Int32, (r = -3 ∨ ∃ p : Nat, p < 64 ∧ r = nI p) ∧ (∀ post : Int32 → Prop, post r → wX_areaFirst_4 post w a o (d + 1) x (nI i)) ∧ (∀ post : Int32 → Prop, post r → wY_areaFirst_4 post w b q (d + 1) y (nI i)) := by
  intro d
  induction d with
  | zero =>
    intro i x y hi hxy
    exact ⟨-3, Or.inl rfl, fun post hp => br_t (ab_end (by omega) (by omega)) hp, fun post hp => br_t (ab_end (by omega) (by omega)) hp⟩
  | succ d ih =>
    intro i x y hi hxy
    have hi' : i < 64 := by omega
    by_cases s : ab_st g i = true
    · by_cases e : y = w
      · refine ⟨nI i, Or.inr ⟨i, hi', rfl⟩, fun post hp => br_f (ab_nend hi') (ab_stX H K hi' (fun _ => br_f ab_10 (nm_r hxy (br_t e hp))) (fun z => absurd s z)), fun post hp => br_f (ab_nend hi') (ab_stY J K hi' (fun _ => br_f ab_10 (br_t e hp)) (fun z => absurd s z))⟩
      · obtain ⟨r, hr, hX, hY⟩ := ih (i + 1) y (y + 1) (by omega) rfl
        refine ⟨r, hr, fun post hp => br_f (ab_nend hi') (ab_stX H K hi' (fun _ => br_f ab_10 (nm_r hxy (br_f e (nm_r (nI_1 i) (hX post hp))))) (fun z => absurd s z)), fun post hp => br_f (ab_nend hi') (ab_stY J K hi' (fun _ => br_f ab_10 (br_f e (nm_e (nm_r (nI_1 i) (hY post hp))))) (fun z => absurd s z))⟩
    · obtain ⟨r, hr, hX, hY⟩ := ih (i + 1) x y (by omega) hxy
      exact ⟨r, hr, fun post hp => br_f (ab_nend hi') (ab_stX H K hi' (fun z => absurd z s) (fun _ => br_t rfl (nm_r (nI_1 i) (hX post hp)))), fun post hp => br_f (ab_nend hi') (ab_stY J K hi' (fun z => absurd z s) (fun _ => br_t rfl (nm_r (nI_1 i) (hY post hp))))⟩
theorem ab_first {g : Nat → Nat} {a b : Nat → Int32} (o q : Nat → Int32) (H : RX g a) (J : RY g b) (K : OKg g) (w : Int32) : ∃ r : Int32, (r = -3 ∨ ∃ p : Nat, p < 64 ∧ r = nI p) ∧ (∀ post : Int32 → Prop, post r → wpX_areaFirst post (a, o) w) ∧ (∀ post : Int32 → Prop, post r → wpY_areaFirst post (b, q) w) := by
  obtain ⟨r, hr, hX, hY⟩ := ab_af o q H J K w 64 0 (-1) 0 rfl rfl
  exact ⟨r, hr, fun post hp => ⟨64 + 1, hX post hp⟩, fun post hp => ⟨64 + 1, hY post hp⟩⟩
/-- the end of an area, in lockstep -/
theorem ab_ln {g : Nat → Nat} {a b : Nat → Int32} (o q : Nat → Int32) (H : RX g a) (J : RY g b) (K : OKg g) {p : Nat} (hp' : p < 64) : ∀ d i : Nat, i + d = 64 → ∃ r : Int32, (∀ post : Int32 → Prop, post r → wX_areaLength_19 post (nI p) a o (d + 1) (nI i)) ∧ (∀ post : Int32 → Prop, post r → wY_areaLength_17 post (nI p) b q (d + 1) (nI i)) := by
  have p0 : (0 : Int32) ≤ nI p := nI_pos' (by omega)
  intro d
  induction d with
  | zero =>
    intro i hi
    have h : (64 : Int32) ≤ nI i := ab_end (by omega) (by omega)
    exact ⟨nI i - nI p, fun post hp => br_t h hp, fun post hp => br_t h (br_t p0 hp)⟩
  | succ d ih =>
    intro i hi
    have hi' : i < 64 := by omega
    by_cases e : g i = g p
    · obtain ⟨r, hX, hY⟩ := ih (i + 1) (by omega)
      exact ⟨r, fun post hp => br_f (ab_nend hi') ⟨ab_in hi', ab_in hp', br_t ((ab_xE H K hi' hp').mpr e) (nm_r (nI_1 i) (hX post hp))⟩, fun post hp => br_f (ab_nend hi') ⟨ab_in hi', ab_in hp', br_t ((ab_yE J K hi' hp').mpr e) (nm_r (nI_1 i) (hY post hp))⟩⟩
    · exact ⟨nI i - nI p, fun post hp => br_f (ab_nend hi') ⟨ab_in hi', ab_in hp', br_f (fun z => e ((ab_xE H K hi' hp').mp z)) hp⟩, fun post hp => br_f (ab_nend hi') ⟨ab_in hi', ab_in hp', br_f (fun z => e ((ab_yE J K hi' hp').mp z)) (br_t p0 hp)⟩⟩
/-- the longest free span, in lockstep -/
theorem ab_lf {g : Nat → Nat} {a b : Nat → Int32} (o q : Nat → Int32) (H : RX g a) (J : RY g b) (K : OKg g) : ∀ (d i : Nat) (x y : Int32), i + d = 64 → ∃ r : Int32, (∀ post : Int32 → Prop, post r → wX_longestFree_6 post a o (d + 1) x y (nI i)) ∧ (∀ post : Int32 → Prop, post r → wY_longestFree_6 post b q (d + 1) x y (nI i)) := by
  intro d
  induction d with
  | zero =>
    intro i x y hi
    have h : (64 : Int32) ≤ nI i := ab_end (by omega) (by omega)
    exact ⟨x, fun post hp => br_t h hp, fun post hp => br_t h hp⟩
  | succ d ih =>
    intro i x y hi
    have hi' : i < 64 := by omega
    by_cases z : g i = 0
    · by_cases c : y + 1 ≤ x
      · obtain ⟨r, hX, hY⟩ := ih (i + 1) x (y + 1) (by omega)
        exact ⟨r, fun post hp => br_f (ab_nend hi') ⟨ab_in hi', br_t ((ab_xF H K hi').mpr z) (br_t c (nm_r (nI_1 i) (hX post hp)))⟩, fun post hp => br_f (ab_nend hi') ⟨ab_in hi', br_t ((ab_yF J K hi').mpr z) (br_t c (nm_r (nI_1 i) (hY post hp)))⟩⟩
      · obtain ⟨r, hX, hY⟩ := ih (i + 1) (y + 1) (y + 1) (by omega)
        exact ⟨r, fun post hp => br_f (ab_nend hi') ⟨ab_in hi', br_t ((ab_xF H K hi').mpr z) (br_f c (nm_r (nI_1 i) (hX post hp)))⟩, fun post hp => br_f (ab_nend hi') ⟨ab_in hi', br_t ((ab_yF J K hi').mpr z) (br_f c (nm_r (nI_1 i) (hY post hp)))⟩⟩
    · have zx : ¬ a (nI i).toNatClampNeg = (-1) := fun w => z ((ab_xF H K hi').mp w)
      have zy : ¬ b (nI i).toNatClampNeg = 0 := fun w => z ((ab_yF J K hi').mp w)
      by_cases c : (0 : Int32) ≤ x
      · obtain ⟨r, hX, hY⟩ := ih (i + 1) x 0 (by omega)
        exact ⟨r, fun post hp => br_f (ab_nend hi') ⟨ab_in hi', br_f zx (br_t c (nm_r (nI_1 i) (hX post hp)))⟩, fun post hp => br_f (ab_nend hi') ⟨ab_in hi', br_f zy (br_t c (nm_r (nI_1 i) (hY post hp)))⟩⟩
      · obtain ⟨r, hX, hY⟩ := ih (i + 1) 0 0 (by omega)
        exact ⟨r, fun post hp => br_f (ab_nend hi') ⟨ab_in hi', br_f zx (br_f c (nm_r (nI_1 i) (hX post hp)))⟩, fun post hp => br_f (ab_nend hi') ⟨ab_in hi', br_f zy (br_f c (nm_r (nI_1 i) (hY post hp)))⟩⟩
/-- allows, in lockstep -/
theorem ab_aw {g : Nat → Nat} {a b : Nat → Int32} (o q : Nat → Int32) (H : RX g a) (J : RY g b) (K : OKg g) {f l t : Nat} (hl : f + l ≤ 64) (ht : t ≤ 7) : ∀ d i : Nat, i + d = f + l → ∃ r : Int32, (∀ post : Int32 → Prop, post r → wX_allows_20 post (nI f) (nI l) (nI t) a o (d + 1) (nI i)) ∧ (∀ post : Int32 → Prop, post r → wY_allows_29 post (nI f) (nI l) (nI t) b q (d + 1) 1 (nI i)) := by
  intro d
  induction d with
  | zero =>
    intro i hi
    have h : nI f + nI l ≤ nI i := ab_fe (by omega) (by omega)
    exact ⟨1, fun post hp => br_t h hp, fun post hp => br_f ab_10 (br_t h ⟨rfl, hp⟩)⟩
  | succ d ih =>
    intro i hi
    have hi' : i < 64 := by omega
    have hc : ¬ nI f + nI l ≤ nI i := ab_fn (by omega) (by omega)
    have hK := K i hi'
    by_cases z : g i = 0
    · exact ⟨0, fun post hp => br_f hc ⟨ab_in hi', br_t ((ab_xF H K hi').mpr z) hp⟩, fun post hp => br_f ab_10 (br_f hc ⟨ab_in hi', br_t ((ab_yL J K hi').mpr z) (nm_e (br_t rfl ⟨rfl, hp⟩))⟩)⟩
    · have zx : ¬ a (nI i).toNatClampNeg = (-1) := fun w => z ((ab_xF H K hi').mp w)
      have zy : ¬ b (nI i).toNatClampNeg ≤ 0 := fun w => z ((ab_yL J K hi').mp w)
      have vx : a (nI i).toNatClampNeg = nI (g i - 1) := by rw [ab_xV H hi']; exact ab_k1 z
      have vy : b (nI i).toNatClampNeg - 1 = nI (g i - 1) := by rw [ab_yV J hi']; exact ab_k1 z
      have al := ab_al (g i - 1) (by omega) t (by omega)
      by_cases c : (nI (g i - 1) &&& nI t) = nI t
      · have cx : (a (nI i).toNatClampNeg &&& nI t) = nI t := by rw [vx]; exact c
        have cy : (nI t &&& ((b (nI i).toNatClampNeg - 1) ^^^ (-1))) = 0 := by rw [vy]; exact al.mpr c
        obtain ⟨r, hX, hY⟩ := ih (i + 1) (by omega)
        exact ⟨r, fun post hp => br_f hc ⟨ab_in hi', br_f zx ⟨ab_in hi', br_t cx (nm_r (nI_1 i) (hX post hp))⟩⟩, fun post hp => br_f ab_10 (br_f hc ⟨ab_in hi', br_f zy ⟨ab_in hi', br_t cy (nm_r (nI_1 i) (hY post hp))⟩⟩)⟩
      · have cx : ¬ (a (nI i).toNatClampNeg &&& nI t) = nI t := by rw [vx]; exact c
        have cy : ¬ (nI t &&& ((b (nI i).toNatClampNeg - 1) ^^^ (-1))) = 0 := by rw [vy]; exact fun w => c (al.mp w)
        exact ⟨0, fun post hp => br_f hc ⟨ab_in hi', br_f zx ⟨ab_in hi', br_f cx hp⟩⟩, fun post hp => br_f ab_10 (br_f hc ⟨ab_in hi', br_f zy ⟨ab_in hi', br_f cy (nm_e (br_t rfl ⟨rfl, hp⟩))⟩⟩)⟩
/-- nextWith from its page on, in lockstep -/
theorem ab_nw {g : Nat → Nat} {a b : Nat → Int32} (o q : Nat → Int32) (H : RX g a) (J : RY g b) (K : OKg g) (t w : Int32) : ∀ d i : Nat, i + d = 64 → (∀ j, i ≤ j → j < 64 → ¬ nI j < w) → ∃ r : Int32, (∀ post : Int32 → Prop, post r → wX_nextWith_10 post t a o (d + 1) (nI i)) ∧ (∀ post : Int32 → Prop, post r → wY_nextWith_2 post t w b q (d + 1) (nI i)) := by
  intro d
  induction d with
  | zero =>
    intro i hi _
    have h : (64 : Int32) ≤ nI i := ab_end (by omega) (by omega)
    exact ⟨-3, fun post hp => br_t h hp, fun post hp => br_t h hp⟩
  | succ d ih =>
    intro i hi hw
    have hi' : i < 64 := by omega
    have h0 := hw i (by omega) hi'
    obtain ⟨r, hX, hY⟩ := ih (i + 1) (by omega) (fun j h1 h2 => hw j (by omega) h2)
    by_cases z : g i = 0
    · exact ⟨r, fun post hp => br_f (ab_nend hi') ⟨ab_in hi', br_t ((ab_xF H K hi').mpr z) (nm_r (nI_1 i) (hX post hp))⟩, fun post hp => br_f (ab_nend hi') (br_f h0 ⟨ab_in hi', br_t ((ab_yL J K hi').mpr z) (nm_r (nI_1 i) (hY post hp))⟩)⟩
    · have zx : ¬ a (nI i).toNatClampNeg = (-1) := fun w => z ((ab_xF H K hi').mp w)
      have zy : ¬ b (nI i).toNatClampNeg ≤ 0 := fun w => z ((ab_yL J K hi').mp w)
      have e : a (nI i).toNatClampNeg = b (nI i).toNatClampNeg - 1 := by rw [ab_xV H hi', ab_yV J hi']
      by_cases c : (b (nI i).toNatClampNeg - 1) >>> ((3 : Int32) &&& 31) = t
      · have cx : a (nI i).toNatClampNeg >>> ((3 : Int32) &&& 31) = t := by rw [e]; exact c
        exact ⟨nI i, fun post hp => br_f (ab_nend hi') ⟨ab_in hi', br_f zx ⟨ab_in hi', br_t cx hp⟩⟩, fun post hp => br_f (ab_nend hi') (br_f h0 ⟨ab_in hi', br_f zy ⟨ab_in hi', br_t c hp⟩⟩)⟩
      · have cx : ¬ a (nI i).toNatClampNeg >>> ((3 : Int32) &&& 31) = t := by rw [e]; exact c
        exact ⟨r, fun post hp => br_f (ab_nend hi') ⟨ab_in hi', br_f zx ⟨ab_in hi', br_f cx (nm_r (nI_1 i) (hX post hp))⟩⟩, fun post hp => br_f (ab_nend hi') (br_f h0 ⟨ab_in hi', br_f zy ⟨ab_in hi', br_f c (nm_r (nI_1 i) (hY post hp))⟩⟩)⟩
/-- the pages before it, on the reference's side -/
theorem ab_nwS {b : Nat → Int32} (q : Nat → Int32) (t w : Int32) (post : Int32 → Prop) (n e : Nat) (he : e ≤ 64) (hs : wY_nextWith_2 post t w b q n (nI e)) : ∀ d i : Nat, i + d = e → (∀ j, i ≤ j → j < e → nI j < w) → wY_nextWith_2 post t w b q (n + d) (nI i) := by
  intro d
  induction d with
  | zero =>
    intro i hi _
    have : i = e := by omega
    rw [this]; exact hs
  | succ d ih =>
    intro i hi hw
    exact br_f (ab_nend (by omega)) (br_t (hw i (by omega) (by omega)) (nm_r (nI_1 i) (ih (i + 1) (by omega) (fun j h1 h2 => hw j (by omega) h2))))
/-- the constructor -/
theorem ab_new (post : SX → Prop) (h : ∀ a, RX (fun _ => 0) a → post (a, fun _ => 0)) : ∀ (d i : Nat) (a : Nat → Int32), i + d = 64 → (∀ j, j < i → a j = nI 0 - 1) → wX_init_22 post (d + 1) (nI i) a (fun _ => 0) := by
  intro d
  induction d with
  | zero =>
    intro i a hi hp
    exact br_t (ab_end (by omega) (by omega)) (h a (fun j hj => hp j (by omega)))
  | succ d ih =>
    intro i a hi hp
    have hi' : i < 64 := by omega
    exact br_f (ab_nend hi') ⟨ab_in hi', nm_e (nm_r (nI_1 i) (ih (i + 1) _ (by omega) (ab_put (p := fun _ => nI 0 - 1) hi' hp (by decide))))⟩
end
section
/-- one picture of the 64 pages serves both states -/
def i_Rel (_ : Nat) (u : SX) (v : SY) : Prop := ∃ g : Nat → Nat, OKg g ∧ RX g u.1 ∧ RY g v.1
theorem i_up {k : Nat} {u : SX} {v : SY} (h : i_Rel k u v) : i_Rel (k + 4) u v := h
theorem i_vc0 : wpX_init (fun u => wpY_init (fun v => i_Rel 0 u v)) :=
  ⟨64 + 1, ab_new _ (fun a H => ⟨fun _ => 0, fun _ _ => Nat.zero_le _, H, fun _ _ => rfl⟩) 64 0 (fun _ => 0) rfl (fun j hj => absurd hj (Nat.not_lt_zero j))⟩
theorem ab_n3 {x : Int32} (h : (0 : Int32) ≤ x) : ¬ x = -3 := fun z => by rw [z] at h; exact absurd h (by decide)
/-- place, once the page is found: X's fill, and Y from its own start -/
theorem ab_plc {g : Nat → Nat} {a b o q : Nat → Int32} {p l c k : Nat} {v1 v2 v3 : Int32} (H : RX g a) (J : RY g b) (K : OKg g) (hfl : p + l ≤ 64) (hc : c ≤ 127) (hY : ∀ post : Int32 → SY → Prop, wY_place_51 post (nI l) (nI c) (nI p) b q → wpY_place post (b, q) v1 v2 v3) : wX_place_44 (fun r u' => wpY_place (fun r' v' => r' = r ∧ i_Rel (k + 4) u' v') (b, q) v1 v2 v3) (nI l) (nI c) (nI p) a o := by
  have p0 : (0 : Int32) ≤ nI p := nI_pos' (by omega)
  have K' : OKg (ab_fl g p l (c + 1)) := ab_flOK K p l (by omega)
  refine br_f (ab_n3 p0) (ab_fillX (c := c + 1) H K hfl (by omega) (nI_pred c).symm (fun z a' o' H' => ?_) (fun z a' o' H' => ?_))
  · exact br_f ab_10 (hY _ (br_t p0 (ab_keepY J (fun q' Q => ab_fillY (c := c + 1) J hfl (nI_1 c) (fun b' J' => ab_tmY J' K' Q (fun _ => br_t rfl ⟨rfl, _, K', H', J'⟩) (fun z' => absurd z' (by omega)))))))
  · exact br_t rfl (hY _ (br_t p0 (ab_keepY J (fun q' Q => ab_fillY (c := c + 1) J hfl (nI_1 c) (fun b' J' => ab_tmY J' K' Q (fun z' => absurd z' (by omega)) (fun _ b'' J'' => br_f ab_10 ⟨rfl, g, K, H', J''⟩))))))
theorem i_vc_map {k : Nat} {u : SX} {v : SY} (I : i_Rel k u v) (hk : k + 4 ≤ 2048) (v1 : Int32) (v2 : Int32) (v3 : Int32) : wpX_map (fun r u' => wpY_map (fun r' v' => r' = r ∧ i_Rel (k + 4) u' v') v v1 v2 v3) u v1 v2 v3 := by
  obtain ⟨a, o⟩ := u
  obtain ⟨b, q⟩ := v
  obtain ⟨g, K, H, J⟩ := I
  have H : RX g a := H
  have J : RY g b := J
  unfold wpX_map wpY_map
  dsimp only
  rcases ab_pr v1 v2 with ⟨hX, hY⟩ | ⟨f, l, rfl, rfl, hl, hfl, hX, hY⟩
  · exact hX _ (br_t rfl (hY _ _ (br_t rfl ⟨rfl, g, K, H, J⟩)))
  · refine hX _ (br_f ab_10 ?_)
    rcases ab_tri v3 127 (by decide) with h | ⟨h, h1, h2, _⟩ | ⟨c, hc, rfl⟩
    · exact br_t h (br_t rfl (hY _ _ (br_f ab_10 (br_t h ⟨rfl, g, K, H, J⟩))))
    · exact br_f h (br_t h1 (br_t rfl (hY _ _ (br_f ab_10 (br_f h (br_f h2 ⟨rfl, g, K, H, J⟩))))))
    · have c0 : ¬ nI c < 0 := nI_pos (by omega)
      have c1 : ¬ (127 : Int32) < nI c := nI_nlt (a := 127) hc (by decide)
      have c2 : nI c ≤ (127 : Int32) := nI_le (b := 127) hc (by decide)
      have K' : OKg (ab_fl g f l (c + 1)) := ab_flOK K f l (by omega)
      refine br_f c0 (br_f c1 (br_f ab_10 (ab_countX H K hfl ?_)))
      refine ab_fillX (c := c + 1) H K hfl (by omega) (nI_pred c).symm (fun z a' o' H' => ?_) (fun z a' o' H' => ?_)
      · refine br_f ab_10 (hY _ _ (br_f ab_10 (br_f c0 (br_t c2 (ab_countY J K hfl (ab_keepY J (fun q' Q => ab_fillY (c := c + 1) J hfl (nI_1 c) (fun b' J' => ab_tmY J' K' Q (fun _ => br_t rfl ⟨rfl, _, K', H', J'⟩) (fun z' => absurd z' (by omega))))))))))
      · refine br_t rfl (hY _ _ (br_f ab_10 (br_f c0 (br_t c2 (ab_countY J K hfl (ab_keepY J (fun q' Q => ab_fillY (c := c + 1) J hfl (nI_1 c) (fun b' J' => ab_tmY J' K' Q (fun z' => absurd z' (by omega)) (fun _ b'' J'' => br_f ab_10 ⟨rfl, g, K, H', J''⟩)))))))))
theorem i_vc_place {k : Nat} {u : SX} {v : SY} (I : i_Rel k u v) (hk : k + 4 ≤ 2048) (v1 : Int32) (v2 : Int32) (v3 : Int32) : wpX_place (fun r u' => wpY_place (fun r' v' => r' = r ∧ i_Rel (k + 4) u' v') v v1 v2 v3) u v1 v2 v3 := by
  obtain ⟨a, o⟩ := u
  obtain ⟨b, q⟩ := v
  obtain ⟨g, K, H, J⟩ := I
  have H : RX g a := H
  have J : RY g b := J
  unfold wpX_place
  dsimp only
  by_cases hy : v2 < 1
  · exact br_t hy (br_t hy ⟨rfl, g, K, H, J⟩)
  · refine br_f hy ?_
    have hy0 : ¬ v2 < 0 := fun z => hy (Int32.lt_trans z (by decide))
    obtain ⟨l, hl', rfl⟩ := nI_of hy0
    have hl : 1 ≤ l := by
      rcases Nat.lt_or_ge l 1 with z | z
      · exact absurd (nI_lt (b := 1) z (by decide)) hy
      · exact z
    rcases ab_tri v1 63 (by decide) with h | ⟨h, h1, _, h2⟩ | ⟨s, hs, rfl⟩
    · exact br_t h (br_t rfl (br_f hy (br_t h ⟨rfl, g, K, H, J⟩)))
    · exact br_f h (br_t h2 (br_t rfl (br_f hy (br_f h (br_t h1 ⟨rfl, g, K, H, J⟩)))))
    · have a0 : ¬ nI s < 0 := nI_pos (by omega)
      have a1 : ¬ (64 : Int32) ≤ nI s := ab_nend (by omega)
      have a2 : ¬ (63 : Int32) < nI s := nI_nlt (a := 63) hs (by decide)
      refine br_f a0 (br_f a1 (br_f ab_10 ?_))
      rcases ab_tri v3 127 (by decide) with h | ⟨h, h1, h2, _⟩ | ⟨c, hc, rfl⟩
      · exact br_t h (br_t rfl (br_f hy (br_f a0 (br_f a2 (br_t h ⟨rfl, g, K, H, J⟩)))))
      · exact br_f h (br_t h1 (br_t rfl (br_f hy (br_f a0 (br_f a2 (br_f h (br_f h2 ⟨rfl, g, K, H, J⟩)))))))
      · have c0 : ¬ nI c < 0 := nI_pos (by omega)
        have c1 : ¬ (127 : Int32) < nI c := nI_nlt (a := 127) hc (by decide)
        have c2 : nI c ≤ (127 : Int32) := nI_le (b := 127) hc (by decide)
        refine br_f c0 (br_f c1 (br_f ab_10 ?_))
        have hS : ∀ post : Int32 → SY → Prop, wpY_room (fun r_6 => (((0 ≤ r_6 → (wY_place_51 post (nI l) (nI c) r_6 b q)) ∧ (¬ 0 ≤ r_6 → (wpY_room (fun r_21 => (wY_place_51 post (nI l) (nI c) r_21 b q)) (b, q) 0 (nI l)))))) (b, q) (nI s) (nI l) → wpY_place post (b, q) (nI s) (nI l) (nI c) := fun post h => br_f hy (br_f a0 (br_f a2 (br_f c0 (br_t c2 h))))
        have m1 : ¬ (0 : Int32) ≤ -1 := by decide
        refine ab_roomX H K hs hl hl' (fun p hp sp hn => ?_) (fun hn => ?_)
        · have p0 : (0 : Int32) ≤ nI p := nI_pos' (by have := sp.1; omega)
          refine br_f (ab_n3 p0) (ab_plc H J K sp.1 hc (fun post h => hS post (ab_roomY1 J K hl hl' hp sp hn (br_t p0 h))))
        · refine br_t rfl (ab_roomX (s := 0) H K (by decide) hl hl' (fun p hp sp hn' => ?_) (fun hn' => ?_))
          · have p0 : (0 : Int32) ≤ nI p := nI_pos' (by have := sp.1; omega)
            exact ab_plc H J K sp.1 hc (fun post h => hS post (ab_roomY0 J K hs hl hl' hn (br_f m1 (ab_roomY1 (s := 0) J K hl hl' hp sp hn' h))))
          · exact br_t rfl (hS _ (ab_roomY0 J K hs hl hl' hn (br_f m1 (ab_roomY0 (s := 0) J K (by decide) hl hl' hn' (br_f m1 ⟨rfl, g, K, H, J⟩)))))
theorem i_vc_free {k : Nat} {u : SX} {v : SY} (I : i_Rel k u v) (hk : k + 4 ≤ 2048) (v1 : Int32) (v2 : Int32) : wpX_free (fun r u' => wpY_free (fun r' v' => r' = r ∧ i_Rel (k + 4) u' v') v v1 v2) u v1 v2 := by
  obtain ⟨a, o⟩ := u
  obtain ⟨b, q⟩ := v
  obtain ⟨g, K, H, J⟩ := I
  have H : RX g a := H
  have J : RY g b := J
  unfold wpX_free wpY_free
  dsimp only
  rcases ab_pr v1 v2 with ⟨hX, hY⟩ | ⟨f, l, rfl, rfl, hl, hfl, hX, hY⟩
  · exact hX _ (br_t rfl (hY _ _ (br_t rfl ⟨rfl, g, K, H, J⟩)))
  · have K' : OKg (ab_fl g f l 0) := ab_flOK K f l (by omega)
    refine hX _ (br_f ab_10 (ab_countX H K hfl ?_))
    refine ab_fillX (c := 0) H K hfl (by omega) (by decide) (fun z a' o' H' => ?_) (fun z a' o' H' => ?_)
    · refine br_f ab_10 (hY _ _ (br_f ab_10 (ab_countY J K hfl (ab_keepY J (fun q' Q => ab_fillY (c := 0) J hfl rfl (fun b' J' => ab_tmY J' K' Q (fun _ => br_t rfl ⟨rfl, _, K', H', J'⟩) (fun z' => absurd z' (by omega))))))))
    · refine br_t rfl (hY _ _ (br_f ab_10 (ab_countY J K hfl (ab_keepY J (fun q' Q => ab_fillY (c := 0) J hfl rfl (fun b' J' => ab_tmY J' K' Q (fun z' => absurd z' (by omega)) (fun _ b'' J'' => br_f ab_10 ⟨rfl, g, K, H', J''⟩)))))))
theorem i_vc_protect {k : Nat} {u : SX} {v : SY} (I : i_Rel k u v) (hk : k + 4 ≤ 2048) (v1 : Int32) (v2 : Int32) (v3 : Int32) : wpX_protect (fun r u' => wpY_protect (fun r' v' => r' = r ∧ i_Rel (k + 4) u' v') v v1 v2 v3) u v1 v2 v3 := by
  obtain ⟨a, o⟩ := u
  obtain ⟨b, q⟩ := v
  obtain ⟨g, K, H, J⟩ := I
  have H : RX g a := H
  have J : RY g b := J
  unfold wpX_protect wpY_protect
  dsimp only
  rcases ab_pr v1 v2 with ⟨hX, hY⟩ | ⟨f, l, rfl, rfl, hl, hfl, hX, hY⟩
  · exact hX _ (br_t rfl (hY _ _ (br_t rfl ⟨rfl, g, K, H, J⟩)))
  · refine hX _ (br_f ab_10 ?_)
    rcases ab_tri v3 7 (by decide) with h | ⟨h, h1, h2, _⟩ | ⟨c, hc, rfl⟩
    · exact br_t h (br_t rfl (hY _ _ (br_f ab_10 (br_t h ⟨rfl, g, K, H, J⟩))))
    · exact br_f h (br_t h1 (br_t rfl (hY _ _ (br_f ab_10 (br_f h (br_f h2 ⟨rfl, g, K, H, J⟩))))))
    · have c0 : ¬ nI c < 0 := nI_pos (by omega)
      have c1 : ¬ (7 : Int32) < nI c := nI_nlt (a := 7) hc (by decide)
      have c2 : nI c ≤ (7 : Int32) := nI_le (b := 7) hc (by decide)
      have hle := ab_cn_le g l f
      refine br_f c0 (br_f c1 (br_f ab_10 (ab_countX H K hfl ?_)))
      by_cases e : l ≤ ab_cn g f l
      · have n1 : nI l ≤ nI (ab_cn g f l) := nI_le e (by omega)
        have hm := ab_cn_all g l f e
        have K' : OKg (ab_pt g f l c) := ab_ptOK K f l hc
        have P0 : RX (ab_pt g f 0 c) a := by rw [ab_pt0]; exact H
        have Q0 : RY (ab_pt g f 0 c) b := by rw [ab_pt0]; exact J
        refine br_t n1 (ab_keepX H (fun o' Ho => ⟨l + 1, ab_plX K _ f l c hfl hc hm Ho l 0 0 a (by omega) P0 (fun z a' H' => ?_) (fun z a' H' => ?_)⟩))
        · exact hY _ _ (br_f ab_10 (br_f c0 (br_t c2 (ab_countY J K hfl (br_t n1 (ab_keepY J (fun q' Q => ⟨l + 1, ab_plY K _ f l c hfl hc hm Q l 0 0 b (by omega) Q0 (fun _ b' J' => ⟨rfl, _, K', H', J'⟩) (fun z' => absurd z' (by omega))⟩)))))))
        · exact hY _ _ (br_f ab_10 (br_f c0 (br_t c2 (ab_countY J K hfl (br_t n1 (ab_keepY J (fun q' Q => ⟨l + 1, ab_plY K _ f l c hfl hc hm Q l 0 0 b (by omega) Q0 (fun z' => absurd z' (by omega)) (fun _ b' J' => ⟨rfl, g, K, H', J'⟩)⟩)))))))
      · have n1 : ¬ nI l ≤ nI (ab_cn g f l) := nI_ge (by omega) (by omega)
        exact br_f n1 (hY _ _ (br_f ab_10 (br_f c0 (br_t c2 (ab_countY J K hfl (br_f n1 ⟨rfl, g, K, H, J⟩))))))
theorem i_vc_rights {k : Nat} {u : SX} {v : SY} (I : i_Rel k u v) (hk : k + 4 ≤ 2048) (v1 : Int32) : wpX_rights (fun r => wpY_rights (fun r' => r' = r ∧ i_Rel (k + 4) u v) v v1) u v1 := by
  obtain ⟨a, o⟩ := u
  obtain ⟨b, q⟩ := v
  obtain ⟨g, K, H, J⟩ := id I
  have H : RX g a := H
  have J : RY g b := J
  unfold wpX_rights wpY_rights
  dsimp only
  rcases ab_pg v1 with ⟨hX, hY⟩ | ⟨p, hp, rfl, hX, hY⟩
  · exact hX _ (br_t rfl (hY _ _ (br_t rfl ⟨rfl, I⟩)))
  · refine hX _ (br_f ab_10 ⟨ab_in hp, ab_if (ab_xF H K hp) (fun z => ?_) (fun z => ⟨ab_in hp, ?_⟩)⟩)
    · exact hY _ _ (br_f ab_10 ⟨ab_in hp, br_t ((ab_yF J K hp).mpr z) ⟨rfl, I⟩⟩)
    · unfold wpX_rightsIn
      refine hY _ _ (br_f ab_10 ⟨ab_in hp, br_f (fun w => z ((ab_yF J K hp).mp w)) ⟨ab_in hp, ?_, I⟩⟩)
      rw [ab_xV H hp, ab_yV J hp]
theorem i_vc_tag {k : Nat} {u : SX} {v : SY} (I : i_Rel k u v) (hk : k + 4 ≤ 2048) (v1 : Int32) : wpX_tag (fun r => wpY_tag (fun r' => r' = r ∧ i_Rel (k + 4) u v) v v1) u v1 := by
  obtain ⟨a, o⟩ := u
  obtain ⟨b, q⟩ := v
  obtain ⟨g, K, H, J⟩ := id I
  have H : RX g a := H
  have J : RY g b := J
  unfold wpX_tag wpY_tag
  dsimp only
  rcases ab_pg v1 with ⟨hX, hY⟩ | ⟨p, hp, rfl, hX, hY⟩
  · exact hX _ (br_t rfl (hY _ _ (br_t rfl ⟨rfl, I⟩)))
  · refine hX _ (br_f ab_10 ⟨ab_in hp, ab_if (ab_xF H K hp) (fun z => ?_) (fun z => ⟨ab_in hp, ?_⟩)⟩)
    · exact hY _ _ (br_f ab_10 ⟨ab_in hp, br_t ((ab_yF J K hp).mpr z) ⟨rfl, I⟩⟩)
    · unfold wpX_tagIn
      refine hY _ _ (br_f ab_10 ⟨ab_in hp, br_f (fun w => z ((ab_yF J K hp).mp w)) ⟨ab_in hp, ?_, I⟩⟩)
      rw [ab_xV H hp, ab_yV J hp]
theorem i_vc_areas {k : Nat} {u : SX} {v : SY} (I : i_Rel k u v) (hk : k + 4 ≤ 2048) : wpX_areas (fun r => wpY_areas (fun r' => r' = r ∧ i_Rel (k + 4) u v) v) u := by
  obtain ⟨a, o⟩ := u
  obtain ⟨b, q⟩ := v
  obtain ⟨g, K, H, J⟩ := id I
  have H : RX g a := H
  have J : RY g b := J
  unfold wpX_areas
  dsimp only
  exact ab_areasX (L := 63) H K (by decide) (ab_areasY J K ⟨rfl, I⟩)
theorem i_vc_areaFirst {k : Nat} {u : SX} {v : SY} (I : i_Rel k u v) (hk : k + 4 ≤ 2048) (v1 : Int32) : wpX_areaFirst (fun r => wpY_areaFirst (fun r' => r' = r ∧ i_Rel (k + 4) u v) v v1) u v1 := by
  obtain ⟨a, o⟩ := u
  obtain ⟨b, q⟩ := v
  obtain ⟨g, K, H, J⟩ := id I
  obtain ⟨r, _, hX, hY⟩ := ab_first o q H J K v1
  exact hX _ (hY _ ⟨rfl, I⟩)
theorem i_vc_areaLength {k : Nat} {u : SX} {v : SY} (I : i_Rel k u v) (hk : k + 4 ≤ 2048) (v1 : Int32) : wpX_areaLength (fun r => wpY_areaLength (fun r' => r' = r ∧ i_Rel (k + 4) u v) v v1) u v1 := by
  obtain ⟨a, o⟩ := u
  obtain ⟨b, q⟩ := v
  obtain ⟨g, K, H, J⟩ := id I
  have H : RX g a := H
  have J : RY g b := J
  obtain ⟨r, hr, hX, hY⟩ := ab_first o q H J K v1
  unfold wpX_areaLength wpY_areaLength
  dsimp only
  refine hX _ ?_
  rcases hr with rfl | ⟨p, hp, rfl⟩
  · exact br_t rfl (hY _ (br_f (by decide) ⟨1, br_t (by decide) (br_f (by decide) ⟨rfl, I⟩)⟩))
  · have p0 : (0 : Int32) ≤ nI p := nI_pos' (by omega)
    have p3 : ¬ nI p = -3 := fun z => by rw [z] at p0; exact absurd p0 (by decide)
    obtain ⟨r, hX', hY'⟩ := ab_ln o q H J K hp (63 - p) (p + 1) (by omega)
    refine br_f p3 (nm_r (nI_1 p) ⟨_, hX' _ (hY _ (br_t p0 ⟨63 - p + 1 + 1, ?_⟩))⟩)
    exact br_f (ab_nend hp) ⟨ab_in hp, ab_in hp, br_t rfl (nm_r (nI_1 p) (hY' _ ⟨rfl, I⟩))⟩
theorem i_vc_areaOf {k : Nat} {u : SX} {v : SY} (I : i_Rel k u v) (hk : k + 4 ≤ 2048) (v1 : Int32) : wpX_areaOf (fun r => wpY_areaOf (fun r' => r' = r ∧ i_Rel (k + 4) u v) v v1) u v1 := by
  obtain ⟨a, o⟩ := u
  obtain ⟨b, q⟩ := v
  obtain ⟨g, K, H, J⟩ := id I
  have H : RX g a := H
  have J : RY g b := J
  unfold wpX_areaOf wpY_areaOf
  dsimp only
  rcases ab_pg v1 with ⟨hX, hY⟩ | ⟨p, hp, rfl, hX, hY⟩
  · exact hX _ (br_t rfl (hY _ _ (br_t rfl ⟨rfl, I⟩)))
  · refine hX _ (br_f ab_10 ⟨ab_in hp, ab_if (ab_xF H K hp) (fun z => ?_) (fun z => ab_areasX H K hp ?_)⟩)
    · exact hY _ _ (br_f ab_10 ⟨ab_in hp, br_t ((ab_yF J K hp).mpr z) ⟨rfl, I⟩⟩)
    · refine hY _ _ (br_f ab_10 ⟨ab_in hp, br_f (fun w => z ((ab_yF J K hp).mp w)) ⟨p + 1 + 1, ab_aoY q J K _ p hp (p + 1) 0 (-1) (by omega) ⟨?_, I⟩⟩⟩)
      rw [Int32.add_comm, ← Int32.sub_eq_add_neg]
theorem i_vc_mapped {k : Nat} {u : SX} {v : SY} (I : i_Rel k u v) (hk : k + 4 ≤ 2048) : wpX_mapped (fun r => wpY_mapped (fun r' => r' = r ∧ i_Rel (k + 4) u v) v) u := by
  obtain ⟨a, o⟩ := u
  obtain ⟨b, q⟩ := v
  obtain ⟨g, K, H, J⟩ := id I
  have H : RX g a := H
  have J : RY g b := J
  unfold wpX_mapped wpY_mapped
  dsimp only
  exact ab_countX (f := 0) (l := 64) H K (by decide) (ab_countY (f := 0) (l := 64) J K (by decide) ⟨rfl, I⟩)
theorem i_vc_longestFree {k : Nat} {u : SX} {v : SY} (I : i_Rel k u v) (hk : k + 4 ≤ 2048) : wpX_longestFree (fun r => wpY_longestFree (fun r' => r' = r ∧ i_Rel (k + 4) u v) v) u := by
  obtain ⟨a, o⟩ := u
  obtain ⟨b, q⟩ := v
  obtain ⟨g, K, H, J⟩ := id I
  obtain ⟨r, hX, hY⟩ := ab_lf o q H J K 64 0 0 0 rfl
  exact ⟨64 + 1, hX _ ⟨64 + 1, hY _ ⟨rfl, I⟩⟩⟩
theorem i_vc_allows {k : Nat} {u : SX} {v : SY} (I : i_Rel k u v) (hk : k + 4 ≤ 2048) (v1 : Int32) (v2 : Int32) (v3 : Int32) : wpX_allows (fun r => wpY_allows (fun r' => r' = r ∧ i_Rel (k + 4) u v) v v1 v2 v3) u v1 v2 v3 := by
  obtain ⟨a, o⟩ := u
  obtain ⟨b, q⟩ := v
  obtain ⟨g, K, H, J⟩ := id I
  have H : RX g a := H
  have J : RY g b := J
  unfold wpX_allows wpY_allows
  dsimp only
  rcases ab_pr v1 v2 with ⟨hX, hY⟩ | ⟨f, l, rfl, rfl, hl, hfl, hX, hY⟩
  · exact hX _ (br_t rfl (hY _ _ (br_t rfl ⟨1, br_t rfl ⟨rfl, rfl, I⟩⟩)))
  · refine hX _ (br_f ab_10 ?_)
    rcases ab_tri v3 7 (by decide) with h | ⟨h, h1, h2, _⟩ | ⟨c, hc, rfl⟩
    · exact br_t h (br_t rfl (hY _ _ (br_f ab_10 (br_t h ⟨1, br_t rfl ⟨rfl, rfl, I⟩⟩))))
    · exact br_f h (br_t h1 (br_t rfl (hY _ _ (br_f ab_10 (br_f h (br_t h1 ⟨1, br_t rfl ⟨rfl, rfl, I⟩⟩))))))
    · have c0 : ¬ nI c < 0 := nI_pos (by omega)
      have c1 : ¬ (7 : Int32) < nI c := nI_nlt (a := 7) hc (by decide)
      obtain ⟨r, hX', hY'⟩ := ab_aw o q H J K hfl hc l f rfl
      exact br_f c0 (br_f c1 (br_f ab_10 ⟨l + 1, hX' _ (hY _ _ (br_f ab_10 (br_f c0 (br_f c1 ⟨l + 1, hY' _ ⟨rfl, I⟩⟩))))⟩))
theorem i_vc_nextWith {k : Nat} {u : SX} {v : SY} (I : i_Rel k u v) (hk : k + 4 ≤ 2048) (v1 : Int32) (v2 : Int32) : wpX_nextWith (fun r => wpY_nextWith (fun r' => r' = r ∧ i_Rel (k + 4) u v) v v1 v2) u v1 v2 := by
  obtain ⟨a, o⟩ := u
  obtain ⟨b, q⟩ := v
  obtain ⟨g, K, H, J⟩ := id I
  have H : RX g a := H
  have J : RY g b := J
  unfold wpX_nextWith wpY_nextWith
  dsimp only
  by_cases h : v2 < 0
  · have h' : ¬ (0 : Int32) ≤ v2 := Int32.not_le.mpr h
    obtain ⟨r, hX, hY⟩ := ab_nw o q H J K v1 v2 64 0 rfl (fun j _ hj z => nI_pos (n := j) (by omega) (Int32.lt_trans z h))
    exact br_f h' ⟨64 + 1, hX _ ⟨64 + 1, hY _ ⟨rfl, I⟩⟩⟩
  · have h' : (0 : Int32) ≤ v2 := Int32.not_lt.mp h
    obtain ⟨p, hp, rfl⟩ := nI_of h
    by_cases c : p < 64
    · obtain ⟨r, hX, hY⟩ := ab_nw o q H J K v1 (nI p) (64 - p) p (by omega) (fun j h1 _ => nI_nlt h1 (by omega))
      exact br_t h' ⟨64 - p + 1, hX _ ⟨64 - p + 1 + p, ab_nwS q v1 (nI p) _ (64 - p + 1) p (by omega) (hY _ ⟨rfl, I⟩) p 0 (by omega) (fun j _ hj => nI_lt hj hp)⟩⟩
    · exact br_t h' ⟨1, br_t (ab_end (by omega) hp) ⟨1 + 64, ab_nwS q v1 (nI p) _ 1 64 (by omega) (br_t (ab_end (by omega) (by decide)) ⟨rfl, I⟩) 64 0 (by omega) (fun j _ hj => nI_lt (by omega) hp)⟩⟩
end
