/-- one picture of the 64 pages serves both states -/
def i_Rel (_ : Nat) (u : SX) (v : SY) : Prop := ∃ g : Nat → Nat, OKg g ∧ RX g u.1 ∧ RY g v.1
theorem i_up {k : Nat} {u : SX} {v : SY} (h : i_Rel k u v) : i_Rel (k + 4) u v := h
theorem i_vc0 : wpX_init (fun u => wpY_init (fun v => i_Rel 0 u v)) :=
  ⟨64 + 1, ab_new _ (fun a H => ⟨fun _ => 0, fun _ _ => Nat.zero_le _, H, fun _ _ => rfl⟩) 64 0 (fun _ => 0) rfl (fun j hj => absurd hj (Nat.not_lt_zero j))⟩
theorem ab_n3 {x : Int32} (h : (0 : Int32) ≤ x) : ¬ x = -3 := fun z => by rw [z] at h; exact absurd h (by decide)
/-- place, once the page is found: X's fill, and Y from its own start -/
theorem ab_plc {g : Nat → Nat} {a b o q : Nat → Int32} {p l c k : Nat} {v1 v2 v3 : Int32} (H : RX g a) (J : RY g b) (K : OKg g) (hfl : p + l ≤ 64) (hc : c ≤ 127) (hY : ∀ post : Int32 → SY → Prop, wY_place_51 post (nI l) (nI c) (nI p) b q → wpY_place post (b, q) v1 v2 v3) : wX_place_44 (fun r u' => wpY_place (fun r' v' => r' = r ∧ i_Rel (k + 4) u' v') (b, q) v1 v2 v3) (nI l) (nI c) (nI p) a o := by
  have p0 : (0 : Int32) ≤ nI p := nI_pos' (by omega)
  have K' : OKg (ab_fl g p l (c + 1)) := ab_flOK K p l (by omega)
  refine br_f (ab_n3 p0) (ab_fillX (c := c + 1) H K hfl (by omega) (nI_pred c).symm (fun z a' o' H' => ?_) (fun z a' o' H' => ?_))
  · exact br_f ab_10 (hY _ (br_t p0 (ab_keepY J (fun q' Q => ab_fillY (c := c + 1) J hfl (nI_1 c) (fun b' J' => ab_tmY J' K' Q (fun _ => br_t rfl ⟨rfl, _, K', H', J'⟩) (fun z' => absurd z' (by omega)))))))
  · exact br_t rfl (hY _ (br_t p0 (ab_keepY J (fun q' Q => ab_fillY (c := c + 1) J hfl (nI_1 c) (fun b' J' => ab_tmY J' K' Q (fun z' => absurd z' (by omega)) (fun _ b'' J'' => br_f ab_10 ⟨rfl, g, K, H', J''⟩))))))
theorem i_vc_map {k : Nat} {u : SX} {v : SY} (I : i_Rel k u v) (hk : k + 4 ≤ 2048) (v1 : Int32) (v2 : Int32) (v3 : Int32) : wpX_map (fun r u' => wpY_map (fun r' v' => r' = r ∧ i_Rel (k + 4) u' v') v v1 v2 v3) u v1 v2 v3 := by
  obtain ⟨a, o⟩ := u
  obtain ⟨b, q⟩ := v
  obtain ⟨g, K, H, J⟩ := I
  have H : RX g a := H
  have J : RY g b := J
  unfold wpX_map wpY_map
  dsimp only
  rcases ab_pr v1 v2 with ⟨hX, hY⟩ | ⟨f, l, rfl, rfl, hl, hfl, hX, hY⟩
  · exact hX _ (br_t rfl (hY _ _ (br_t rfl ⟨rfl, g, K, H, J⟩)))
  · refine hX _ (br_f ab_10 ?_)
    rcases ab_tri v3 127 (by decide) with h | ⟨h, h1, h2, _⟩ | ⟨c, hc, rfl⟩
    · exact br_t h (br_t rfl (hY _ _ (br_f ab_10 (br_t h ⟨rfl, g, K, H, J⟩))))
    · exact br_f h (br_t h1 (br_t rfl (hY _ _ (br_f ab_10 (br_f h (br_f h2 ⟨rfl, g, K, H, J⟩))))))
    · have c0 : ¬ nI c < 0 := nI_pos (by omega)
      have c1 : ¬ (127 : Int32) < nI c := nI_nlt (a := 127) hc (by decide)
      have c2 : nI c ≤ (127 : Int32) := nI_le (b := 127) hc (by decide)
      have K' : OKg (ab_fl g f l (c + 1)) := ab_flOK K f l (by omega)
      refine br_f c0 (br_f c1 (br_f ab_10 (ab_countX H K hfl ?_)))
      refine ab_fillX (c := c + 1) H K hfl (by omega) (nI_pred c).symm (fun z a' o' H' => ?_) (fun z a' o' H' => ?_)
      · refine br_f ab_10 (hY _ _ (br_f ab_10 (br_f c0 (br_t c2 (ab_countY J K hfl (ab_keepY J (fun q' Q => ab_fillY (c := c + 1) J hfl (nI_1 c) (fun b' J' => ab_tmY J' K' Q (fun _ => br_t rfl ⟨rfl, _, K', H', J'⟩) (fun z' => absurd z' (by omega))))))))))
      · refine br_t rfl (hY _ _ (br_f ab_10 (br_f c0 (br_t c2 (ab_countY J K hfl (ab_keepY J (fun q' Q => ab_fillY (c := c + 1) J hfl (nI_1 c) (fun b' J' => ab_tmY J' K' Q (fun z' => absurd z' (by omega)) (fun _ b'' J'' => br_f ab_10 ⟨rfl, g, K, H', J''⟩)))))))))
theorem i_vc_place {k : Nat} {u : SX} {v : SY} (I : i_Rel k u v) (hk : k + 4 ≤ 2048) (v1 : Int32) (v2 : Int32) (v3 : Int32) : wpX_place (fun r u' => wpY_place (fun r' v' => r' = r ∧ i_Rel (k + 4) u' v') v v1 v2 v3) u v1 v2 v3 := by
  obtain ⟨a, o⟩ := u
  obtain ⟨b, q⟩ := v
  obtain ⟨g, K, H, J⟩ := I
  have H : RX g a := H
  have J : RY g b := J
  unfold wpX_place
  dsimp only
  by_cases hy : v2 < 1
  · exact br_t hy (br_t hy ⟨rfl, g, K, H, J⟩)
  · refine br_f hy ?_
    have hy0 : ¬ v2 < 0 := fun z => hy (Int32.lt_trans z (by decide))
    obtain ⟨l, hl', rfl⟩ := nI_of hy0
    have hl : 1 ≤ l := by
      rcases Nat.lt_or_ge l 1 with z | z
      · exact absurd (nI_lt (b := 1) z (by decide)) hy
      · exact z
    rcases ab_tri v1 63 (by decide) with h | ⟨h, h1, _, h2⟩ | ⟨s, hs, rfl⟩
    · exact br_t h (br_t rfl (br_f hy (br_t h ⟨rfl, g, K, H, J⟩)))
    · exact br_f h (br_t h2 (br_t rfl (br_f hy (br_f h (br_t h1 ⟨rfl, g, K, H, J⟩)))))
    · have a0 : ¬ nI s < 0 := nI_pos (by omega)
      have a1 : ¬ (64 : Int32) ≤ nI s := ab_nend (by omega)
      have a2 : ¬ (63 : Int32) < nI s := nI_nlt (a := 63) hs (by decide)
      refine br_f a0 (br_f a1 (br_f ab_10 ?_))
      rcases ab_tri v3 127 (by decide) with h | ⟨h, h1, h2, _⟩ | ⟨c, hc, rfl⟩
      · exact br_t h (br_t rfl (br_f hy (br_f a0 (br_f a2 (br_t h ⟨rfl, g, K, H, J⟩)))))
      · exact br_f h (br_t h1 (br_t rfl (br_f hy (br_f a0 (br_f a2 (br_f h (br_f h2 ⟨rfl, g, K, H, J⟩)))))))
      · have c0 : ¬ nI c < 0 := nI_pos (by omega)
        have c1 : ¬ (127 : Int32) < nI c := nI_nlt (a := 127) hc (by decide)
        have c2 : nI c ≤ (127 : Int32) := nI_le (b := 127) hc (by decide)
        refine br_f c0 (br_f c1 (br_f ab_10 ?_))
        have hS : ∀ post : Int32 → SY → Prop, wpY_room (fun r_6 => (((0 ≤ r_6 → (wY_place_51 post (nI l) (nI c) r_6 b q)) ∧ (¬ 0 ≤ r_6 → (wpY_room (fun r_21 => (wY_place_51 post (nI l) (nI c) r_21 b q)) (b, q) 0 (nI l)))))) (b, q) (nI s) (nI l) → wpY_place post (b, q) (nI s) (nI l) (nI c) := fun post h => br_f hy (br_f a0 (br_f a2 (br_f c0 (br_t c2 h))))
        have m1 : ¬ (0 : Int32) ≤ -1 := by decide
        refine ab_roomX H K hs hl hl' (fun p hp sp hn => ?_) (fun hn => ?_)
        · have p0 : (0 : Int32) ≤ nI p := nI_pos' (by have := sp.1; omega)
          refine br_f (ab_n3 p0) (ab_plc H J K sp.1 hc (fun post h => hS post (ab_roomY1 J K hl hl' hp sp hn (br_t p0 h))))
        · refine br_t rfl (ab_roomX (s := 0) H K (by decide) hl hl' (fun p hp sp hn' => ?_) (fun hn' => ?_))
          · have p0 : (0 : Int32) ≤ nI p := nI_pos' (by have := sp.1; omega)
            exact ab_plc H J K sp.1 hc (fun post h => hS post (ab_roomY0 J K hs hl hl' hn (br_f m1 (ab_roomY1 (s := 0) J K hl hl' hp sp hn' h))))
          · exact br_t rfl (hS _ (ab_roomY0 J K hs hl hl' hn (br_f m1 (ab_roomY0 (s := 0) J K (by decide) hl hl' hn' (br_f m1 ⟨rfl, g, K, H, J⟩)))))
theorem i_vc_free {k : Nat} {u : SX} {v : SY} (I : i_Rel k u v) (hk : k + 4 ≤ 2048) (v1 : Int32) (v2 : Int32) : wpX_free (fun r u' => wpY_free (fun r' v' => r' = r ∧ i_Rel (k + 4) u' v') v v1 v2) u v1 v2 := by
  obtain ⟨a, o⟩ := u
  obtain ⟨b, q⟩ := v
  obtain ⟨g, K, H, J⟩ := I
  have H : RX g a := H
  have J : RY g b := J
  unfold wpX_free wpY_free
  dsimp only
  rcases ab_pr v1 v2 with ⟨hX, hY⟩ | ⟨f, l, rfl, rfl, hl, hfl, hX, hY⟩
  · exact hX _ (br_t rfl (hY _ _ (br_t rfl ⟨rfl, g, K, H, J⟩)))
  · have K' : OKg (ab_fl g f l 0) := ab_flOK K f l (by omega)
    refine hX _ (br_f ab_10 (ab_countX H K hfl ?_))
    refine ab_fillX (c := 0) H K hfl (by omega) (by decide) (fun z a' o' H' => ?_) (fun z a' o' H' => ?_)
    · refine br_f ab_10 (hY _ _ (br_f ab_10 (ab_countY J K hfl (ab_keepY J (fun q' Q => ab_fillY (c := 0) J hfl rfl (fun b' J' => ab_tmY J' K' Q (fun _ => br_t rfl ⟨rfl, _, K', H', J'⟩) (fun z' => absurd z' (by omega))))))))
    · refine br_t rfl (hY _ _ (br_f ab_10 (ab_countY J K hfl (ab_keepY J (fun q' Q => ab_fillY (c := 0) J hfl rfl (fun b' J' => ab_tmY J' K' Q (fun z' => absurd z' (by omega)) (fun _ b'' J'' => br_f ab_10 ⟨rfl, g, K, H', J''⟩)))))))
theorem i_vc_protect {k : Nat} {u : SX} {v : SY} (I : i_Rel k u v) (hk : k + 4 ≤ 2048) (v1 : Int32) (v2 : Int32) (v3 : Int32) : wpX_protect (fun r u' => wpY_protect (fun r' v' => r' = r ∧ i_Rel (k + 4) u' v') v v1 v2 v3) u v1 v2 v3 := by
  obtain ⟨a, o⟩ := u
  obtain ⟨b, q⟩ := v
  obtain ⟨g, K, H, J⟩ := I
  have H : RX g a := H
  have J : RY g b := J
  unfold wpX_protect wpY_protect
  dsimp only
  rcases ab_pr v1 v2 with ⟨hX, hY⟩ | ⟨f, l, rfl, rfl, hl, hfl, hX, hY⟩
  · exact hX _ (br_t rfl (hY _ _ (br_t rfl ⟨rfl, g, K, H, J⟩)))
  · refine hX _ (br_f ab_10 ?_)
    rcases ab_tri v3 7 (by decide) with h | ⟨h, h1, h2, _⟩ | ⟨c, hc, rfl⟩
    · exact br_t h (br_t rfl (hY _ _ (br_f ab_10 (br_t h ⟨rfl, g, K, H, J⟩))))
    · exact br_f h (br_t h1 (br_t rfl (hY _ _ (br_f ab_10 (br_f h (br_f h2 ⟨rfl, g, K, H, J⟩))))))
    · have c0 : ¬ nI c < 0 := nI_pos (by omega)
      have c1 : ¬ (7 : Int32) < nI c := nI_nlt (a := 7) hc (by decide)
      have c2 : nI c ≤ (7 : Int32) := nI_le (b := 7) hc (by decide)
      have hle := ab_cn_le g l f
      refine br_f c0 (br_f c1 (br_f ab_10 (ab_countX H K hfl ?_)))
      by_cases e : l ≤ ab_cn g f l
      · have n1 : nI l ≤ nI (ab_cn g f l) := nI_le e (by omega)
        have hm := ab_cn_all g l f e
        have K' : OKg (ab_pt g f l c) := ab_ptOK K f l hc
        have P0 : RX (ab_pt g f 0 c) a := by rw [ab_pt0]; exact H
        have Q0 : RY (ab_pt g f 0 c) b := by rw [ab_pt0]; exact J
        refine br_t n1 (ab_keepX H (fun o' Ho => ⟨l + 1, ab_plX K _ f l c hfl hc hm Ho l 0 0 a (by omega) P0 (fun z a' H' => ?_) (fun z a' H' => ?_)⟩))
        · exact hY _ _ (br_f ab_10 (br_f c0 (br_t c2 (ab_countY J K hfl (br_t n1 (ab_keepY J (fun q' Q => ⟨l + 1, ab_plY K _ f l c hfl hc hm Q l 0 0 b (by omega) Q0 (fun _ b' J' => ⟨rfl, _, K', H', J'⟩) (fun z' => absurd z' (by omega))⟩)))))))
        · exact hY _ _ (br_f ab_10 (br_f c0 (br_t c2 (ab_countY J K hfl (br_t n1 (ab_keepY J (fun q' Q => ⟨l + 1, ab_plY K _ f l c hfl hc hm Q l 0 0 b (by omega) Q0 (fun z' => absurd z' (by omega)) (fun _ b' J' => ⟨rfl, g, K, H', J'⟩)⟩)))))))
      · have n1 : ¬ nI l ≤ nI (ab_cn g f l) := nI_ge (by omega) (by omega)
        exact br_f n1 (hY _ _ (br_f ab_10 (br_f c0 (br_t c2 (ab_countY J K hfl (br_f n1 ⟨rfl, g, K, H, J⟩))))))
theorem i_vc_rights {k : Nat} {u : SX} {v : SY} (I : i_Rel k u v) (hk : k + 4 ≤ 2048) (v1 : Int32) : wpX_rights (fun r => wpY_rights (fun r' => r' = r ∧ i_Rel (k + 4) u v) v v1) u v1 := by
  obtain ⟨a, o⟩ := u
  obtain ⟨b, q⟩ := v
  obtain ⟨g, K, H, J⟩ := id I
  have H : RX g a := H
  have J : RY g b := J
  unfold wpX_rights wpY_rights
  dsimp only
  rcases ab_pg v1 with ⟨hX, hY⟩ | ⟨p, hp, rfl, hX, hY⟩
  · exact hX _ (br_t rfl (hY _ _ (br_t rfl ⟨rfl, I⟩)))
  · refine hX _ (br_f ab_10 ⟨ab_in hp, ab_if (ab_xF H K hp) (fun z => ?_) (fun z => ⟨ab_in hp, ?_⟩)⟩)
    · exact hY _ _ (br_f ab_10 ⟨ab_in hp, br_t ((ab_yF J K hp).mpr z) ⟨rfl, I⟩⟩)
    · unfold wpX_rightsIn
      refine hY _ _ (br_f ab_10 ⟨ab_in hp, br_f (fun w => z ((ab_yF J K hp).mp w)) ⟨ab_in hp, ?_, I⟩⟩)
      rw [ab_xV H hp, ab_yV J hp]
theorem i_vc_tag {k : Nat} {u : SX} {v : SY} (I : i_Rel k u v) (hk : k + 4 ≤ 2048) (v1 : Int32) : wpX_tag (fun r => wpY_tag (fun r' => r' = r ∧ i_Rel (k + 4) u v) v v1) u v1 := by
  obtain ⟨a, o⟩ := u
  obtain ⟨b, q⟩ := v
  obtain ⟨g, K, H, J⟩ := id I
  have H : RX g a := H
  have J : RY g b := J
  unfold wpX_tag wpY_tag
  dsimp only
  rcases ab_pg v1 with ⟨hX, hY⟩ | ⟨p, hp, rfl, hX, hY⟩
  · exact hX _ (br_t rfl (hY _ _ (br_t rfl ⟨rfl, I⟩)))
  · refine hX _ (br_f ab_10 ⟨ab_in hp, ab_if (ab_xF H K hp) (fun z => ?_) (fun z => ⟨ab_in hp, ?_⟩)⟩)
    · exact hY _ _ (br_f ab_10 ⟨ab_in hp, br_t ((ab_yF J K hp).mpr z) ⟨rfl, I⟩⟩)
    · unfold wpX_tagIn
      refine hY _ _ (br_f ab_10 ⟨ab_in hp, br_f (fun w => z ((ab_yF J K hp).mp w)) ⟨ab_in hp, ?_, I⟩⟩)
      rw [ab_xV H hp, ab_yV J hp]
theorem i_vc_areas {k : Nat} {u : SX} {v : SY} (I : i_Rel k u v) (hk : k + 4 ≤ 2048) : wpX_areas (fun r => wpY_areas (fun r' => r' = r ∧ i_Rel (k + 4) u v) v) u := by
  obtain ⟨a, o⟩ := u
  obtain ⟨b, q⟩ := v
  obtain ⟨g, K, H, J⟩ := id I
  have H : RX g a := H
  have J : RY g b := J
  unfold wpX_areas
  dsimp only
  exact ab_areasX (L := 63) H K (by decide) (ab_areasY J K ⟨rfl, I⟩)
theorem i_vc_areaFirst {k : Nat} {u : SX} {v : SY} (I : i_Rel k u v) (hk : k + 4 ≤ 2048) (v1 : Int32) : wpX_areaFirst (fun r => wpY_areaFirst (fun r' => r' = r ∧ i_Rel (k + 4) u v) v v1) u v1 := by
  obtain ⟨a, o⟩ := u
  obtain ⟨b, q⟩ := v
  obtain ⟨g, K, H, J⟩ := id I
  obtain ⟨r, _, hX, hY⟩ := ab_first o q H J K v1
  exact hX _ (hY _ ⟨rfl, I⟩)
theorem i_vc_areaLength {k : Nat} {u : SX} {v : SY} (I : i_Rel k u v) (hk : k + 4 ≤ 2048) (v1 : Int32) : wpX_areaLength (fun r => wpY_areaLength (fun r' => r' = r ∧ i_Rel (k + 4) u v) v v1) u v1 := by
  obtain ⟨a, o⟩ := u
  obtain ⟨b, q⟩ := v
  obtain ⟨g, K, H, J⟩ := id I
  have H : RX g a := H
  have J : RY g b := J
  obtain ⟨r, hr, hX, hY⟩ := ab_first o q H J K v1
  unfold wpX_areaLength wpY_areaLength
  dsimp only
  refine hX _ ?_
  rcases hr with rfl | ⟨p, hp, rfl⟩
  · exact br_t rfl (hY _ (br_f (by decide) ⟨1, br_t (by decide) (br_f (by decide) ⟨rfl, I⟩)⟩))
  · have p0 : (0 : Int32) ≤ nI p := nI_pos' (by omega)
    have p3 : ¬ nI p = -3 := fun z => by rw [z] at p0; exact absurd p0 (by decide)
    obtain ⟨r, hX', hY'⟩ := ab_ln o q H J K hp (63 - p) (p + 1) (by omega)
    refine br_f p3 (nm_r (nI_1 p) ⟨_, hX' _ (hY _ (br_t p0 ⟨63 - p + 1 + 1, ?_⟩))⟩)
    exact br_f (ab_nend hp) ⟨ab_in hp, ab_in hp, br_t rfl (nm_r (nI_1 p) (hY' _ ⟨rfl, I⟩))⟩
theorem i_vc_areaOf {k : Nat} {u : SX} {v : SY} (I : i_Rel k u v) (hk : k + 4 ≤ 2048) (v1 : Int32) : wpX_areaOf (fun r => wpY_areaOf (fun r' => r' = r ∧ i_Rel (k + 4) u v) v v1) u v1 := by
  obtain ⟨a, o⟩ := u
  obtain ⟨b, q⟩ := v
  obtain ⟨g, K, H, J⟩ := id I
  have H : RX g a := H
  have J : RY g b := J
  unfold wpX_areaOf wpY_areaOf
  dsimp only
  rcases ab_pg v1 with ⟨hX, hY⟩ | ⟨p, hp, rfl, hX, hY⟩
  · exact hX _ (br_t rfl (hY _ _ (br_t rfl ⟨rfl, I⟩)))
  · refine hX _ (br_f ab_10 ⟨ab_in hp, ab_if (ab_xF H K hp) (fun z => ?_) (fun z => ab_areasX H K hp ?_)⟩)
    · exact hY _ _ (br_f ab_10 ⟨ab_in hp, br_t ((ab_yF J K hp).mpr z) ⟨rfl, I⟩⟩)
    · refine hY _ _ (br_f ab_10 ⟨ab_in hp, br_f (fun w => z ((ab_yF J K hp).mp w)) ⟨p + 1 + 1, ab_aoY q J K _ p hp (p + 1) 0 (-1) (by omega) ⟨?_, I⟩⟩⟩)
      rw [Int32.add_comm, ← Int32.sub_eq_add_neg]
theorem i_vc_mapped {k : Nat} {u : SX} {v : SY} (I : i_Rel k u v) (hk : k + 4 ≤ 2048) : wpX_mapped (fun r => wpY_mapped (fun r' => r' = r ∧ i_Rel (k + 4) u v) v) u := by
  obtain ⟨a, o⟩ := u
  obtain ⟨b, q⟩ := v
  obtain ⟨g, K, H, J⟩ := id I
  have H : RX g a := H
  have J : RY g b := J
  unfold wpX_mapped wpY_mapped
  dsimp only
  exact ab_countX (f := 0) (l := 64) H K (by decide) (ab_countY (f := 0) (l := 64) J K (by decide) ⟨rfl, I⟩)
theorem i_vc_longestFree {k : Nat} {u : SX} {v : SY} (I : i_Rel k u v) (hk : k + 4 ≤ 2048) : wpX_longestFree (fun r => wpY_longestFree (fun r' => r' = r ∧ i_Rel (k + 4) u v) v) u := by
  obtain ⟨a, o⟩ := u
  obtain ⟨b, q⟩ := v
  obtain ⟨g, K, H, J⟩ := id I
  obtain ⟨r, hX, hY⟩ := ab_lf o q H J K 64 0 0 0 rfl
  exact ⟨64 + 1, hX _ ⟨64 + 1, hY _ ⟨rfl, I⟩⟩⟩
theorem i_vc_allows {k : Nat} {u : SX} {v : SY} (I : i_Rel k u v) (hk : k + 4 ≤ 2048) (v1 : Int32) (v2 : Int32) (v3 : Int32) : wpX_allows (fun r => wpY_allows (fun r' => r' = r ∧ i_Rel (k + 4) u v) v v1 v2 v3) u v1 v2 v3 := by
  obtain ⟨a, o⟩ := u
  obtain ⟨b, q⟩ := v
  obtain ⟨g, K, H, J⟩ := id I
  have H : RX g a := H
  have J : RY g b := J
  unfold wpX_allows wpY_allows
  dsimp only
  rcases ab_pr v1 v2 with ⟨hX, hY⟩ | ⟨f, l, rfl, rfl, hl, hfl, hX, hY⟩
  · exact hX _ (br_t rfl (hY _ _ (br_t rfl ⟨1, br_t rfl ⟨rfl, rfl, I⟩⟩)))
  · refine hX _ (br_f ab_10 ?_)
    rcases ab_tri v3 7 (by decide) with h | ⟨h, h1, h2, _⟩ | ⟨c, hc, rfl⟩
    · exact br_t h (br_t rfl (hY _ _ (br_f ab_10 (br_t h ⟨1, br_t rfl ⟨rfl, rfl, I⟩⟩))))
    · exact br_f h (br_t h1 (br_t rfl (hY _ _ (br_f ab_10 (br_f h (br_t h1 ⟨1, br_t rfl ⟨rfl, rfl, I⟩⟩))))))
    · have c0 : ¬ nI c < 0 := nI_pos (by omega)
      have c1 : ¬ (7 : Int32) < nI c := nI_nlt (a := 7) hc (by decide)
      obtain ⟨r, hX', hY'⟩ := ab_aw o q H J K hfl hc l f rfl
      exact br_f c0 (br_f c1 (br_f ab_10 ⟨l + 1, hX' _ (hY _ _ (br_f ab_10 (br_f c0 (br_f c1 ⟨l + 1, hY' _ ⟨rfl, I⟩⟩))))⟩))
theorem i_vc_nextWith {k : Nat} {u : SX} {v : SY} (I : i_Rel k u v) (hk : k + 4 ≤ 2048) (v1 : Int32) (v2 : Int32) : wpX_nextWith (fun r => wpY_nextWith (fun r' => r' = r ∧ i_Rel (k + 4) u v) v v1 v2) u v1 v2 := by
  obtain ⟨a, o⟩ := u
  obtain ⟨b, q⟩ := v
  obtain ⟨g, K, H, J⟩ := id I
  have H : RX g a := H
  have J : RY g b := J
  unfold wpX_nextWith wpY_nextWith
  dsimp only
  by_cases h : v2 < 0
  · have h' : ¬ (0 : Int32) ≤ v2 := Int32.not_le.mpr h
    obtain ⟨r, hX, hY⟩ := ab_nw o q H J K v1 v2 64 0 rfl (fun j _ hj z => nI_pos (n := j) (by omega) (Int32.lt_trans z h))
    exact br_f h' ⟨64 + 1, hX _ ⟨64 + 1, hY _ ⟨rfl, I⟩⟩⟩
  · have h' : (0 : Int32) ≤ v2 := Int32.not_lt.mp h
    obtain ⟨p, hp, rfl⟩ := nI_of h
    by_cases c : p < 64
    · obtain ⟨r, hX, hY⟩ := ab_nw o q H J K v1 (nI p) (64 - p) p (by omega) (fun j h1 _ => nI_nlt h1 (by omega))
      exact br_t h' ⟨64 - p + 1, hX _ ⟨64 - p + 1 + p, ab_nwS q v1 (nI p) _ (64 - p + 1) p (by omega) (hY _ ⟨rfl, I⟩) p 0 (by omega) (fun j _ hj => nI_lt hj hp)⟩⟩
    · exact br_t h' ⟨1, br_t (ab_end (by omega) hp) ⟨1 + 64, ab_nwS q v1 (nI p) _ 1 64 (by omega) (br_t (ab_end (by omega) (by decide)) ⟨rfl, I⟩) 64 0 (by omega) (fun j _ hj => nI_lt (by omega) hp)⟩⟩
