section
theorem pk_us {f : Nat → Int32} {k : Nat} {x : Int32} : upd f k x k = x := if_pos rfl
theorem pk_un {f : Nat → Int32} {k j : Nat} {x : Int32} (h : j ≠ k) : upd f k x j = f j := if_neg h
theorem pk_sub {a b : Nat} (h : b ≤ a) : nI a - nI b = nI (a - b) := by
  obtain ⟨c, rfl⟩ : ∃ c, a = c + b := ⟨a - b, by omega⟩
  rw [← nI_add, Int32.add_sub_cancel, Nat.add_sub_cancel]
theorem pk_ix (x : Int32) {n : Nat} (hn : n < 2 ^ 31) : x < 0 ∨ nI n ≤ x ∨ ∃ j : Nat, j < n ∧ x = nI j := by
  by_cases h : x < 0
  · exact Or.inl h
  · obtain ⟨j, hj, rfl⟩ := nI_of h
    by_cases h2 : j < n
    · exact Or.inr (Or.inr ⟨j, h2, rfl⟩)
    · exact Or.inr (Or.inl (nI_le (by omega) hj))
theorem pk_tn {n : Nat} (h : n < 2 ^ 32) : (nI n).toBitVec.toNat = n := Nat.mod_eq_of_lt h
theorem pk_and (x : Int32) {m : Int32} (k : Nat) (hm : m.toBitVec.toNat = 2 ^ k - 1) : x &&& m = nI (x.toBitVec.toNat % 2 ^ k) := by
  apply Int32.toBitVec_inj.mp
  apply BitVec.eq_of_toNat_eq
  rw [Int32.toBitVec_and, BitVec.toNat_and, hm, Nat.and_two_pow_sub_one_eq_mod]
  show _ = (BitVec.ofNat 32 _).toNat
  rw [BitVec.toNat_ofNat]
  exact (Nat.mod_eq_of_lt (Nat.lt_of_le_of_lt (Nat.mod_le _ _) x.toBitVec.isLt)).symm
theorem pk_andN {n : Nat} (h : n < 2 ^ 32) {m : Int32} (k : Nat) (hm : m.toBitVec.toNat = 2 ^ k - 1) : nI n &&& m = nI (n % 2 ^ k) := by
  rw [pk_and _ k hm, pk_tn h]
theorem ab_if {c d A B : Prop} (e : c ↔ d) (f : d → A) (g : ¬ d → B) : (c → A) ∧ (¬ c → B) := ⟨fun h => f (e.mp h), fun h => g (fun z => h (e.mpr z))⟩
theorem ab_eq0 {c : Nat} (h : c < 2 ^ 31) : nI c = 0 ↔ c = 0 := by
  rw [← nI_0, nI_eq h (by decide)]
theorem ab_le0 {c : Nat} (h : c < 2 ^ 31) : nI c ≤ 0 ↔ c = 0 := by
  rw [← nI_0, nI_leI h (by decide)]; omega
theorem ab_inj {c d : Nat} (hc : c < 2 ^ 31) (hd : d < 2 ^ 31) : nI c - 1 = nI d - 1 ↔ c = d := by
  rw [← nI_eq hc hd]
  constructor
  · intro h
    have e : nI c - 1 + 1 = nI d - 1 + 1 := by rw [h]
    rwa [Int32.sub_add_cancel, Int32.sub_add_cancel] at e
  · intro h; rw [h]
theorem ab_m1 {c : Nat} (h : c < 2 ^ 31) : nI c - 1 = -1 ↔ c = 0 := by
  have e : (-1 : Int32) = nI 0 - 1 := by decide
  rw [e]; exact ab_inj h (by decide)
theorem ab_pd {j : Nat} (h : 0 < j) : nI j - 1 = nI (j - 1) := by
  obtain ⟨k, rfl⟩ : ∃ k, j = k + 1 := ⟨j - 1, by omega⟩
  exact nI_pred k
theorem ab_s0 (x : Int32) : x + nI 0 = x := by rw [nI_0, Int32.add_zero]
theorem ab_s1 (x : Int32) (m : Nat) : x + nI (1 + m) = x + 1 + nI m := by
  rw [← nI_add, ← Int32.add_assoc]; rfl
theorem ab_tri (x : Int32) (n : Nat) (hn : n + 1 < 2 ^ 31) : x < 0 ∨ (¬ x < 0 ∧ nI n < x ∧ ¬ x ≤ nI n ∧ nI (n + 1) ≤ x) ∨ ∃ j : Nat, j ≤ n ∧ x = nI j := by
  by_cases h : x < 0
  · exact Or.inl h
  · obtain ⟨j, hj, rfl⟩ := nI_of h
    by_cases h2 : j ≤ n
    · exact Or.inr (Or.inr ⟨j, h2, rfl⟩)
    · exact Or.inr (Or.inl ⟨h, nI_lt (by omega) hj, nI_ge (by omega) hj, nI_le (by omega) hj⟩)
/-- the picture: g j is 0 where page j is free, else its kind + 1; the component holds it less one, the reference as it is -/
def RX (g : Nat → Nat) (a : Nat → Int32) : Prop := ∀ j, j < 64 → a j = nI (g j) - 1
def RY (g : Nat → Nat) (b : Nat → Int32) : Prop := ∀ j, j < 64 → b j = nI (g j)
def OKg (g : Nat → Nat) : Prop := ∀ j, j < 64 → g j ≤ 128
theorem ab_xV {g : Nat → Nat} {a : Nat → Int32} (H : RX g a) {i : Nat} (hi : i < 64) : a (nI i).toNatClampNeg = nI (g i) - 1 := by
  rw [nI_clamp (by omega)]; exact H i hi
theorem ab_yV {g : Nat → Nat} {b : Nat → Int32} (H : RY g b) {i : Nat} (hi : i < 64) : b (nI i).toNatClampNeg = nI (g i) := by
  rw [nI_clamp (by omega)]; exact H i hi
theorem ab_sm {g : Nat → Nat} (K : OKg g) {i : Nat} (hi : i < 64) : g i < 2 ^ 31 := Nat.lt_of_le_of_lt (K i hi) (by decide)
theorem ab_xF {g : Nat → Nat} {a : Nat → Int32} (H : RX g a) (K : OKg g) {i : Nat} (hi : i < 64) : a (nI i).toNatClampNeg = (-1) ↔ g i = 0 := by
  rw [ab_xV H hi]; exact ab_m1 (ab_sm K hi)
theorem ab_yF {g : Nat → Nat} {b : Nat → Int32} (H : RY g b) (K : OKg g) {i : Nat} (hi : i < 64) : b (nI i).toNatClampNeg = 0 ↔ g i = 0 := by
  rw [ab_yV H hi]; exact ab_eq0 (ab_sm K hi)
theorem ab_yL {g : Nat → Nat} {b : Nat → Int32} (H : RY g b) (K : OKg g) {i : Nat} (hi : i < 64) : b (nI i).toNatClampNeg ≤ 0 ↔ g i = 0 := by
  rw [ab_yV H hi]; exact ab_le0 (ab_sm K hi)
theorem ab_xE {g : Nat → Nat} {a : Nat → Int32} (H : RX g a) (K : OKg g) {i j : Nat} (hi : i < 64) (hj : j < 64) : a (nI i).toNatClampNeg = a (nI j).toNatClampNeg ↔ g i = g j := by
  rw [ab_xV H hi, ab_xV H hj]; exact ab_inj (ab_sm K hi) (ab_sm K hj)
theorem ab_yE {g : Nat → Nat} {b : Nat → Int32} (H : RY g b) (K : OKg g) {i j : Nat} (hi : i < 64) (hj : j < 64) : b (nI i).toNatClampNeg = b (nI j).toNatClampNeg ↔ g i = g j := by
  rw [ab_yV H hi, ab_yV H hj]; exact nI_eq (ab_sm K hi) (ab_sm K hj)
theorem ab_in {i : Nat} (hi : i < 64) : vp_in (nI i) 64 := vp_in_nI hi (by decide)
theorem ab_end {i : Nat} (h : 64 ≤ i) (hi : i < 2 ^ 31) : (64 : Int32) ≤ nI i := nI_le (a := 64) h hi
theorem ab_nend {i : Nat} (h : i < 64) : ¬ (64 : Int32) ≤ nI i := nI_ge (b := 64) h (by decide)
theorem ab_fe {f l i : Nat} (h : f + l ≤ i) (hi : i < 2 ^ 31) : nI f + nI l ≤ nI i := by
  rw [nI_add]; exact nI_le h hi
theorem ab_fn {f l i : Nat} (h : i < f + l) (hl : f + l < 2 ^ 31) : ¬ nI f + nI l ≤ nI i := by
  rw [nI_add]; exact nI_ge h hl
/-- the number of mapped pages among d from i on -/
def ab_cn (g : Nat → Nat) : Nat → Nat → Nat
  | _, 0 => 0
  | i, d + 1 => (if g i = 0 then 0 else 1) + ab_cn g (i + 1) d
theorem ab_cnS (g : Nat → Nat) (i d : Nat) : ab_cn g i (d + 1) = (if g i = 0 then 0 else 1) + ab_cn g (i + 1) d := rfl
theorem ab_cn_le (g : Nat → Nat) : ∀ d i, ab_cn g i d ≤ d := by
  intro d
  induction d with
  | zero => intro i; exact Nat.le_refl 0
  | succ d ih =>
    intro i
    have h := ih (i + 1)
    rw [ab_cnS]
    split <;> omega
theorem ab_cn_0 (g : Nat → Nat) : ∀ d i, ab_cn g i d = 0 ↔ ∀ j, i ≤ j → j < i + d → g j = 0 := by
  intro d
  induction d with
  | zero => intro i; exact ⟨fun _ j h1 h2 => by omega, fun _ => rfl⟩
  | succ d ih =>
    intro i
    have h := ih (i + 1)
    rw [ab_cnS]
    constructor
    · intro e j h1 h2
      split at e
      · rename_i z
        by_cases hj : j = i
        · rw [hj]; exact z
        · exact h.mp (by omega) j (by omega) (by omega)
      · omega
    · intro e
      rw [if_pos (e i (by omega) (by omega)), h.mpr (fun j h1 h2 => e j (by omega) (by omega))]
theorem ab_cn_all (g : Nat → Nat) : ∀ d i, d ≤ ab_cn g i d → ∀ j, i ≤ j → j < i + d → g j ≠ 0 := by
  intro d
  induction d with
  | zero => intro i _ j h1 h2; omega
  | succ d ih =>
    intro i e j h1 h2
    have h := ab_cn_le g d (i + 1)
    rw [ab_cnS] at e
    split at e
    · omega
    · rename_i z
      by_cases hj : j = i
      · rw [hj]; exact z
      · exact ih (i + 1) (by omega) j (by omega) (by omega)
/-- an area begins at page j -/
def ab_st (g : Nat → Nat) (j : Nat) : Bool := decide (g j ≠ 0 ∧ (j = 0 ∨ g (j - 1) ≠ g j))
theorem ab_stT {g : Nat → Nat} {j : Nat} : ab_st g j = true ↔ g j ≠ 0 ∧ (j = 0 ∨ g (j - 1) ≠ g j) := by
  unfold ab_st; exact decide_eq_true_iff
/-- the number of areas that begin among d pages from i on -/
def ab_ns (g : Nat → Nat) : Nat → Nat → Nat
  | _, 0 => 0
  | i, d + 1 => (if ab_st g i = true then 1 else 0) + ab_ns g (i + 1) d
theorem ab_nsS (g : Nat → Nat) (i d : Nat) : ab_ns g i (d + 1) = (if ab_st g i = true then 1 else 0) + ab_ns g (i + 1) d := rfl
theorem ab_ns_le (g : Nat → Nat) : ∀ d i, ab_ns g i d ≤ d := by
  intro d
  induction d with
  | zero => intro i; exact Nat.le_refl 0
  | succ d ih =>
    intro i
    have h := ih (i + 1)
    rw [ab_nsS]
    split <;> omega
/-- the picture with l pages from f on set to c -/
def ab_fl (g : Nat → Nat) (f l c : Nat) : Nat → Nat := fun j => if f ≤ j ∧ j < f + l then c else g j
theorem ab_flOK {g : Nat → Nat} (K : OKg g) (f l : Nat) {c : Nat} (hc : c ≤ 128) : OKg (ab_fl g f l c) := by
  intro j hj
  unfold ab_fl
  split
  · exact hc
  · exact K j hj
/-- the picture with new rights r on l pages from f on -/
def ab_pt (g : Nat → Nat) (f l r : Nat) : Nat → Nat := fun j => if f ≤ j ∧ j < f + l then (g j - 1) / 8 * 8 + r + 1 else g j
theorem ab_ptOK {g : Nat → Nat} (K : OKg g) (f l : Nat) {r : Nat} (hr : r ≤ 7) : OKg (ab_pt g f l r) := by
  intro j hj
  have h := K j hj
  unfold ab_pt
  split
  · omega
  · exact h
/-- the number of pages with other rights than r among d from i on -/
def ab_pc (g : Nat → Nat) (r : Nat) : Nat → Nat → Nat
  | _, 0 => 0
  | i, d + 1 => (if (g i - 1) % 8 = r then 0 else 1) + ab_pc g r (i + 1) d
theorem ab_pcS (g : Nat → Nat) (r i d : Nat) : ab_pc g r i (d + 1) = (if (g i - 1) % 8 = r then 0 else 1) + ab_pc g r (i + 1) d := rfl
theorem ab_wr : ∀ k, k < 128 → ∀ r, r < 8 → ((nI k &&& (-8)) ||| nI r) = nI (k / 8 * 8 + r) := by decide +kernel
theorem ab_al : ∀ k, k < 128 → ∀ r, r < 8 → ((nI r &&& (nI k ^^^ (-1))) = 0 ↔ (nI k &&& nI r) = nI r) := by decide +kernel
theorem ab_a7 {k : Nat} (hk : k < 128) : nI k &&& 7 = nI (k % 8) := pk_andN (by omega) 3 (by decide)
theorem ab_fr {q n : Nat} (h : n ≤ q + 1) : nI q - nI n + 1 = nI (q + 1 - n) := by
  rw [← pk_sub h, ← nI_1]
  grind
end
