/-! the calls that walk the assignments -/
theorem i_vc_value {k : Nat} {u : SX} {v : SY} (I : i_Rel k u v) (hk : k + 3 ≤ 1537) (v1 : Int32) (v2 : Int32) : wpX_value (fun r => wpY_value (fun r' v' => r' = r ∧ i_Rel (k + 3) u v') v v1 v2) u v1 v2 := by
  obtain ⟨l, t, c, K, rfl, rfl, hl, hG⟩ := I
  have hR : i_Rel (k + 3) (nI l, tv_T t, tv_T c) (nI l, tv_T c, tv_T t, K) := ⟨l, t, c, K, rfl, rfl, hl, hG⟩
  unfold wpX_value wpY_value
  dsimp only
  rcases tv_cs t c v1 with hF | ⟨w, hw, rfl, hc⟩
  · exact tv_cxF _ hG hF (br_t rfl (tv_cyF _ K hG hF (br_t rfl ⟨rfl, hR⟩)))
  · by_cases h0 : v2 < 0
    · exact tv_cx1 _ hw hG hc (br_f tv_n10 (br_t h0 (tv_cy1 _ K hw hG hc (br_f tv_n10 (br_t h0 ⟨rfl, hR⟩)))))
    · obtain ⟨j, hj, rfl⟩ := nI_of h0
      refine tv_cx1 _ hw hG hc (br_f tv_n10 (br_f h0 (pk_lt j 81 (fun h => ?_) (fun h => ?_))))
      · exact tv_J hl hw h hG hc (tv_cy1 _ K hw hG hc (br_f tv_n10 (br_f h0 (pk_lt 80 j (fun h' => absurd h' (by omega)) (fun _ => tv_E K hl hw h hG hc (fun K' => ⟨rfl, l, t, c, K', rfl, rfl, hl, hG⟩))))))
      · exact tv_cy1 _ K hw hG hc (br_f tv_n10 (br_f h0 (pk_lt 80 j (fun _ => ⟨rfl, hR⟩) (fun h' => absurd h' (by omega)))))
theorem tv_find_r {l : Nat} {t c : Nat → Nat} (hl : l < 3) (hG : tv_G t c) (p q : Int32) : tv_R (fun post => wpX_find post (nI l, tv_T t, tv_T c) p q) (fun post K => wpY_find post (nI l, tv_T c, tv_T t, K) p q) l t c := by
  unfold tv_R wpX_find wpY_find
  dsimp only
  rcases tv_cs t c p with hF | ⟨w, hw, rfl, hc⟩
  · exact ⟨-1, fun post hp => tv_cxF _ hG hF (br_t rfl hp), fun K post hp => ⟨1, br_f tv_80n (tv_cyF _ K hG hF (br_t rfl (hp K)))⟩⟩
  · obtain ⟨r, hX, hY, hN⟩ := tv_find_s hl hG hw hc q 81 0 rfl
    rcases tv_q3 q with h | ⟨j, hj, rfl⟩
    · have e : r = -1 := hN (fun a => tv_nv h (tv_val_lt l t c w a))
      subst e
      exact ⟨-1, fun post hp => tv_cx1 _ hw hG hc (br_f tv_n10 (tv_it0 h _ (br_t rfl hp))), fun K post hp => ⟨82, hY K post hp⟩⟩
    · exact ⟨r, fun post hp => tv_cx1 _ hw hG hc (br_f tv_n10 (tv_it1 hj _ (br_f tv_n10 ⟨82, hX post hp⟩))), fun K post hp => ⟨82, hY K post hp⟩⟩
theorem i_vc_find {k : Nat} {u : SX} {v : SY} (I : i_Rel k u v) (hk : k + 3 ≤ 1537) (v1 : Int32) (v2 : Int32) : wpX_find (fun r => wpY_find (fun r' v' => r' = r ∧ i_Rel (k + 3) u v') v v1 v2) u v1 v2 := by
  obtain ⟨l, t, c, K, rfl, rfl, hl, hG⟩ := I
  exact tv_done hl hG (tv_find_r hl hG v1 v2)
theorem tv_values_r {l : Nat} {t c : Nat → Nat} (hl : l < 3) (hG : tv_G t c) (p : Int32) : tv_R (fun post => wpX_values post (nI l, tv_T t, tv_T c) p) (fun post K => wpY_values post (nI l, tv_T c, tv_T t, K) p) l t c := by
  unfold tv_R wpX_values wpY_values
  dsimp only
  rcases tv_cs t c p with hF | ⟨w, hw, rfl, hc⟩
  · exact ⟨0, fun post hp => tv_cxF _ hG hF (br_t rfl hp), fun K post hp => ⟨1, br_f tv_80n (tv_cyF _ K hG hF (br_t rfl (hp K)))⟩⟩
  · obtain ⟨r, hX, hY⟩ := tv_values_s hl hG hw hc 81 0 0 rfl
    exact ⟨r, fun post hp => tv_cx1 _ hw hG hc (br_f tv_n10 ⟨82, hX post hp⟩), fun K post hp => ⟨82, hY K post hp⟩⟩
theorem i_vc_values {k : Nat} {u : SX} {v : SY} (I : i_Rel k u v) (hk : k + 3 ≤ 1537) (v1 : Int32) : wpX_values (fun r => wpY_values (fun r' v' => r' = r ∧ i_Rel (k + 3) u v') v v1) u v1 := by
  obtain ⟨l, t, c, K, rfl, rfl, hl, hG⟩ := I
  exact tv_done hl hG (tv_values_r hl hG v1)
theorem tv_valid_r {l : Nat} {t c : Nat → Nat} (hl : l < 3) (hG : tv_G t c) (p : Int32) : tv_R (fun post => wpX_valid post (nI l, tv_T t, tv_T c) p) (fun post K => wpY_valid post (nI l, tv_T c, tv_T t, K) p) l t c := by
  obtain ⟨r, hX, hY⟩ := tv_values_r hl hG p
  unfold tv_R wpX_valid wpY_valid
  dsimp only
  by_cases h : r = 4
  · exact ⟨1, fun post hp => hX _ (br_t h hp), fun K post hp => hY K _ (fun K' => br_t h (hp K'))⟩
  · exact ⟨0, fun post hp => hX _ (br_f h hp), fun K post hp => hY K _ (fun K' => br_f h (hp K'))⟩
theorem i_vc_valid {k : Nat} {u : SX} {v : SY} (I : i_Rel k u v) (hk : k + 3 ≤ 1537) (v1 : Int32) : wpX_valid (fun r => wpY_valid (fun r' v' => r' = r ∧ i_Rel (k + 3) u v') v v1) u v1 := by
  obtain ⟨l, t, c, K, rfl, rfl, hl, hG⟩ := I
  exact tv_done hl hG (tv_valid_r hl hG v1)
theorem tv_bc {t c : Nat → Nat} : tv_F t c 0 ∨ (tv_C t c 0 ∧ tv_F t c 1) ∨ (tv_C t c 0 ∧ tv_C t c 1) := by
  rcases tv_cs t c 0 with h | ⟨w, hw, e, hc⟩
  · exact Or.inl h
  · have e0 : 0 = w := (nI_eq (a := 0) (by omega) (by omega)).mp e
    subst e0
    rcases tv_cs t c 1 with h | ⟨w, hw, e, hc'⟩
    · exact Or.inr (Or.inl ⟨hc, h⟩)
    · have e1 : 1 = w := (nI_eq (a := 1) (by omega) (by omega)).mp e
      subst e1
      exact Or.inr (Or.inr ⟨hc, hc'⟩)
theorem tv_bx1 {post : Int32 → Prop} {t c : Nat → Nat} (L : Int32) (hG : tv_G t c) (h0 : tv_C t c 0) (h1 : tv_C t c 1) (hp : post 1) : wpX_bothComplete post (L, tv_T t, tv_T c) := by
  unfold wpX_bothComplete
  dsimp only
  exact tv_cx1 (w := 0) _ (by decide) hG h0 (br_f tv_n10 (tv_cx1 (w := 1) _ (by decide) hG h1 (br_f tv_n10 hp)))
theorem tv_bxA {post : Int32 → Prop} {t c : Nat → Nat} (L : Int32) (hG : tv_G t c) (h0 : tv_F t c 0) (hp : post 0) : wpX_bothComplete post (L, tv_T t, tv_T c) := by
  unfold wpX_bothComplete
  dsimp only
  exact tv_cxF _ hG h0 (br_t rfl hp)
theorem tv_bxB {post : Int32 → Prop} {t c : Nat → Nat} (L : Int32) (hG : tv_G t c) (h0 : tv_C t c 0) (h1 : tv_F t c 1) (hp : post 0) : wpX_bothComplete post (L, tv_T t, tv_T c) := by
  unfold wpX_bothComplete
  dsimp only
  exact tv_cx1 (w := 0) _ (by decide) hG h0 (br_f tv_n10 (tv_cxF _ hG h1 (br_t rfl hp)))
theorem tv_both_r {l : Nat} {t c : Nat → Nat} (hl : l < 3) (hG : tv_G t c) (p q : Int32) : tv_R (fun post => wpX_findBoth post (nI l, tv_T t, tv_T c) p q) (fun post K => wpY_findBoth post (nI l, tv_T c, tv_T t, K) p q) l t c := by
  unfold tv_R wpX_findBoth wpY_findBoth
  dsimp only
  rcases tv_bc (t := t) (c := c) with hA | ⟨h0, hB⟩ | ⟨h0, h1⟩
  · exact ⟨-1, fun post hp => tv_bxA _ hG hA (br_t rfl hp), fun K post hp => ⟨1, br_f tv_80n (tv_cyF _ K hG hA (br_t rfl (hp K)))⟩⟩
  · exact ⟨-1, fun post hp => tv_bxB _ hG h0 hB (br_t rfl hp), fun K post hp => ⟨1, br_f tv_80n (tv_cy1 (w := 0) _ K (by decide) hG h0 (br_f tv_n10 (tv_cyF _ K hG hB (br_t rfl (hp K)))))⟩⟩
  · obtain ⟨r, hX, hY, hN⟩ := tv_both_s hl hG h0 h1 p q 81 0 rfl
    rcases tv_q3 p with h | ⟨i, hi, rfl⟩
    · have e : r = -1 := hN (fun a hh => tv_nv h (tv_val_lt l t c 0 a) hh.1)
      subst e
      exact ⟨-1, fun post hp => tv_bx1 _ hG h0 h1 (br_f tv_n10 (tv_it0 h _ (br_t rfl hp))), fun K post hp => ⟨82, hY K post hp⟩⟩
    · rcases tv_q3 q with h | ⟨j, hj, rfl⟩
      · have e : r = -1 := hN (fun a hh => tv_nv h (tv_val_lt l t c 1 a) hh.2)
        subst e
        exact ⟨-1, fun post hp => tv_bx1 _ hG h0 h1 (br_f tv_n10 (tv_it1 hi _ (br_f tv_n10 (tv_it0 h _ (br_t rfl hp))))), fun K post hp => ⟨82, hY K post hp⟩⟩
      · exact ⟨r, fun post hp => tv_bx1 _ hG h0 h1 (br_f tv_n10 (tv_it1 hi _ (br_f tv_n10 (tv_it1 hj _ (br_f tv_n10 ⟨82, hX post hp⟩))))), fun K post hp => ⟨82, hY K post hp⟩⟩
theorem i_vc_findBoth {k : Nat} {u : SX} {v : SY} (I : i_Rel k u v) (hk : k + 3 ≤ 1537) (v1 : Int32) (v2 : Int32) : wpX_findBoth (fun r => wpY_findBoth (fun r' v' => r' = r ∧ i_Rel (k + 3) u v') v v1 v2) u v1 v2 := by
  obtain ⟨l, t, c, K, rfl, rfl, hl, hG⟩ := I
  exact tv_done hl hG (tv_both_r hl hG v1 v2)
theorem tv_entails_r {l : Nat} {t c : Nat → Nat} (hl : l < 3) (hG : tv_G t c) : tv_R (fun post => wpX_entails post (nI l, tv_T t, tv_T c)) (fun post K => wpY_entails post (nI l, tv_T c, tv_T t, K)) l t c := by
  unfold tv_R wpX_entails wpY_entails
  dsimp only
  rcases tv_bc (t := t) (c := c) with hA | ⟨h0, hB⟩ | ⟨h0, h1⟩
  · exact ⟨0, fun post hp => tv_bxA _ hG hA (br_t rfl hp), fun K post hp => tv_cyF _ K hG hA (br_t rfl ⟨1, tv_ent0 0 0 (nI l, tv_T c, tv_T t, K) post (hp K)⟩)⟩
  · exact ⟨0, fun post hp => tv_bxB _ hG h0 hB (br_t rfl hp), fun K post hp => tv_cy1 (w := 0) _ K (by decide) hG h0 (br_f tv_n10 (tv_cyF _ K hG hB (br_t rfl ⟨1, tv_ent0 0 0 (nI l, tv_T c, tv_T t, K) post (hp K)⟩)))⟩
  · obtain ⟨r, hX, hY⟩ := tv_entails_s hl hG h0 h1 81 0 rfl
    exact ⟨r, fun post hp => tv_bx1 _ hG h0 h1 (br_f tv_n10 ⟨82, hX post hp⟩), fun K post hp => tv_cy1 (w := 0) _ K (by decide) hG h0 (br_f tv_n10 (tv_cy1 (w := 1) _ K (by decide) hG h1 (br_f tv_n10 ⟨82, hY K post hp⟩)))⟩
theorem i_vc_entails {k : Nat} {u : SX} {v : SY} (I : i_Rel k u v) (hk : k + 3 ≤ 1537) : wpX_entails (fun r => wpY_entails (fun r' v' => r' = r ∧ i_Rel (k + 3) u v') v) u := by
  obtain ⟨l, t, c, K, rfl, rfl, hl, hG⟩ := I
  exact tv_done hl hG (tv_entails_r hl hG)
theorem tv_below_r {l : Nat} {t c : Nat → Nat} (hl : l < 3) (hG : tv_G t c) : tv_R (fun post => wpX_below post (nI l, tv_T t, tv_T c)) (fun post K => wpY_below post (nI l, tv_T c, tv_T t, K)) l t c := by
  unfold tv_R wpX_below wpY_below
  dsimp only
  rcases tv_bc (t := t) (c := c) with hA | ⟨h0, hB⟩ | ⟨h0, h1⟩
  · exact ⟨0, fun post hp => tv_bxA _ hG hA (br_t rfl hp), fun K post hp => tv_cyF _ K hG hA (br_t rfl ⟨1, tv_bel0 0 0 (nI l, tv_T c, tv_T t, K) post (hp K)⟩)⟩
  · exact ⟨0, fun post hp => tv_bxB _ hG h0 hB (br_t rfl hp), fun K post hp => tv_cy1 (w := 0) _ K (by decide) hG h0 (br_f tv_n10 (tv_cyF _ K hG hB (br_t rfl ⟨1, tv_bel0 0 0 (nI l, tv_T c, tv_T t, K) post (hp K)⟩)))⟩
  · obtain ⟨r, hX, hY⟩ := tv_below_s hl hG h0 h1 81 0 rfl
    exact ⟨r, fun post hp => tv_bx1 _ hG h0 h1 (br_f tv_n10 ⟨82, hX post hp⟩), fun K post hp => tv_cy1 (w := 0) _ K (by decide) hG h0 (br_f tv_n10 (tv_cy1 (w := 1) _ K (by decide) hG h1 (br_f tv_n10 ⟨82, hY K post hp⟩)))⟩
theorem i_vc_below {k : Nat} {u : SX} {v : SY} (I : i_Rel k u v) (hk : k + 3 ≤ 1537) : wpX_below (fun r => wpY_below (fun r' v' => r' = r ∧ i_Rel (k + 3) u v') v) u := by
  obtain ⟨l, t, c, K, rfl, rfl, hl, hG⟩ := I
  exact tv_done hl hG (tv_below_r hl hG)
theorem tv_alike_r {l : Nat} {t c : Nat → Nat} (hl : l < 3) (hG : tv_G t c) : tv_R (fun post => wpX_alike post (nI l, tv_T t, tv_T c)) (fun post K => wpY_alike post (nI l, tv_T c, tv_T t, K)) l t c := by
  unfold tv_R wpX_alike wpY_alike
  dsimp only
  rcases tv_bc (t := t) (c := c) with hA | ⟨h0, hB⟩ | ⟨h0, h1⟩
  · exact ⟨0, fun post hp => tv_bxA _ hG hA (br_t rfl hp), fun K post hp => tv_cyF _ K hG hA (br_t rfl ⟨1, tv_ali0 0 0 (nI l, tv_T c, tv_T t, K) post (hp K)⟩)⟩
  · exact ⟨0, fun post hp => tv_bxB _ hG h0 hB (br_t rfl hp), fun K post hp => tv_cy1 (w := 0) _ K (by decide) hG h0 (br_f tv_n10 (tv_cyF _ K hG hB (br_t rfl ⟨1, tv_ali0 0 0 (nI l, tv_T c, tv_T t, K) post (hp K)⟩)))⟩
  · obtain ⟨r, hX, hY⟩ := tv_alike_s hl hG h0 h1 81 0 rfl
    exact ⟨r, fun post hp => tv_bx1 _ hG h0 h1 (br_f tv_n10 ⟨82, hX post hp⟩), fun K post hp => tv_cy1 (w := 0) _ K (by decide) hG h0 (br_f tv_n10 (tv_cy1 (w := 1) _ K (by decide) hG h1 (br_f tv_n10 ⟨82, hY K post hp⟩)))⟩
theorem i_vc_alike {k : Nat} {u : SX} {v : SY} (I : i_Rel k u v) (hk : k + 3 ≤ 1537) : wpX_alike (fun r => wpY_alike (fun r' v' => r' = r ∧ i_Rel (k + 3) u v') v) u := by
  obtain ⟨l, t, c, K, rfl, rfl, hl, hG⟩ := I
  exact tv_done hl hG (tv_alike_r hl hG)
theorem tv_apart_r {l : Nat} {t c : Nat → Nat} (hl : l < 3) (hG : tv_G t c) (p q : Int32) : tv_R (fun post => wpX_findApart post (nI l, tv_T t, tv_T c) p q) (fun post K => wpY_findApart post (nI l, tv_T c, tv_T t, K) p q) l t c := by
  unfold tv_R wpX_findApart wpY_findApart
  dsimp only
  rcases tv_cs t c p with hF | ⟨w, hw, rfl, hc⟩
  · exact ⟨-1, fun post hp => tv_cxF _ hG hF (br_t rfl hp), fun K post hp => ⟨1, br_f tv_80n (tv_cyF _ K hG hF (br_t rfl (hp K)))⟩⟩
  · by_cases h0 : q < 0
    · exact ⟨-1, fun post hp => tv_cx1 _ hw hG hc (br_f tv_n10 (br_t h0 hp)), fun K post hp => ⟨1, br_f tv_80n (tv_cy1 _ K hw hG hc (br_f tv_n10 (br_t h0 (hp K))))⟩⟩
    · obtain ⟨i, hi, rfl⟩ := nI_of h0
      by_cases h4 : i < 4
      · obtain ⟨r, hX, hY⟩ := tv_apart_s hl hG hw hc h4 81 0 rfl
        exact ⟨r, fun post hp => tv_cx1 _ hw hG hc (br_f tv_n10 (br_f h0 (br_t (nI_lt (b := 4) h4 (by decide)) ⟨82, hX post hp⟩))), fun K post hp => ⟨82, hY K post hp⟩⟩
      · exact ⟨-1, fun post hp => tv_cx1 _ hw hG hc (br_f tv_n10 (br_f h0 (br_f (nI_nlt (b := 4) (by omega) hi) hp))), fun K post hp => ⟨1, br_f tv_80n (tv_cy1 _ K hw hG hc (br_f tv_n10 (br_f h0 (br_t (nI_lt (a := 3) (by omega) hi) (hp K)))))⟩⟩
theorem i_vc_findApart {k : Nat} {u : SX} {v : SY} (I : i_Rel k u v) (hk : k + 3 ≤ 1537) (v1 : Int32) (v2 : Int32) : wpX_findApart (fun r => wpY_findApart (fun r' v' => r' = r ∧ i_Rel (k + 3) u v') v v1 v2) u v1 v2 := by
  obtain ⟨l, t, c, K, rfl, rfl, hl, hG⟩ := I
  exact tv_done hl hG (tv_apart_r hl hG v1 v2)
