/-! whether a formula is complete, on both sides -/
theorem tv_mx {post : Int32 → Prop} {w : Nat} {t c : Nat → Nat} (L : Int32) (hw : w < 2) (hG : tv_G t c) (hp : post (nI (tv_pd (tv_g t w) (c w)))) : ∀ d m n : Nat, m + d = c w → d < n → wX_missingFormulas_4 post (nI w) L (tv_T t) (tv_T c) n (nI (tv_pd (tv_g t w) m)) (nI m) := by
  obtain ⟨h9c, hpos⟩ := hG.2 w hw
  have ec := tv_Tc c (w := w) (by omega)
  intro d
  induction d with
  | zero =>
    intro m n hm hn
    obtain ⟨n, rfl⟩ : ∃ q, n = q + 1 := ⟨n - 1, by omega⟩
    obtain rfl : m = c w := by omega
    exact ⟨vp_in_nI hw (by omega), pk_le (c w) (c w) (fun _ => hp) (fun h => absurd h (by omega)) ec⟩
  | succ d ih =>
    intro m n hm hn
    obtain ⟨n, rfl⟩ : ∃ q, n = q + 1 := ⟨n - 1, by omega⟩
    have hpm := hpos m (by omega)
    have hk8 : tv_g t w m < 8 := hG.1 _
    have hh := ih (m + 1) n (by omega) (by omega)
    have hd : tv_pd (tv_g t w) (m + 1) = if 4 ≤ tv_g t w m then tv_pd (tv_g t w) m - 1 else if tv_g t w m = 0 then tv_pd (tv_g t w) m else tv_pd (tv_g t w) m + 1 := rfl
    rw [hd] at hh
    have e : tv_T t (nI w * 9 + nI m).toNatClampNeg = nI (tv_g t w m) := by
      rw [tv_xx, tv_Tc _ (by omega)]
      rfl
    have ei : vp_in (nI w * 9 + nI m) 18 := by
      rw [tv_xx]
      exact vp_in_nI (by omega) (by omega)
    refine ⟨vp_in_nI hw (by omega), pk_le (c w) m (fun h => absurd h (by omega)) (fun _ => ⟨ei, nm_r e (pk_lt (tv_g t w m) 4 (fun h4 => pk_eq (tv_g t w m) 0 (fun h0 => ?_) (fun h0 => ?_)) (fun h4 => ?_))⟩) ec⟩
    · rw [if_neg (by omega), if_pos h0] at hh
      exact nm_r (nI_1 m) hh
    · rw [if_neg (by omega), if_neg h0] at hh
      exact nm_r (nI_1 _) (nm_r (nI_1 m) hh)
    · rw [if_pos h4] at hh
      have ep : nI (tv_pd (tv_g t w) m) + (-1) = nI (tv_pd (tv_g t w) m - 1) := by
        obtain ⟨q, hq⟩ : ∃ q, tv_pd (tv_g t w) m = q + 1 := ⟨tv_pd (tv_g t w) m - 1, by omega⟩
        rw [hq]
        exact pk_m1 q
      exact nm_r ep (nm_r (nI_1 m) hh)
theorem tv_my {post : Int32 → Prop} {w : Nat} {t c : Nat → Nat} (L : Int32) (K : Nat → Int32) (hw : w < 2) (hG : tv_G t c) (hp1 : tv_C t c w → post 1) (hp0 : ¬ tv_C t c w → post 0) : ∀ d m n : Nat, m + d = c w → d < n → wY_complete_15 post (nI w) L (tv_T c) (tv_T t) K n (nI (tv_pd (tv_g t w) m)) (nI m) := by
  obtain ⟨h9c, hpos⟩ := hG.2 w hw
  have ec := tv_Tc c (w := w) (by omega)
  have hle := tv_pd_le (tv_g t w) (c w)
  intro d
  induction d with
  | zero =>
    intro m n hm hn
    obtain ⟨n, rfl⟩ : ∃ q, n = q + 1 := ⟨n - 1, by omega⟩
    obtain rfl : m = c w := by omega
    exact ⟨vp_in_nI hw (by omega), pk_le (c w) (c w) (fun _ => pk_eq (tv_pd (tv_g t w) (c w)) 0 hp1 hp0) (fun h => absurd h (by omega)) ec⟩
  | succ d ih =>
    intro m n hm hn
    obtain ⟨n, rfl⟩ : ∃ q, n = q + 1 := ⟨n - 1, by omega⟩
    have hpm := hpos m (by omega)
    have hk8 : tv_g t w m < 8 := hG.1 _
    have hh := ih (m + 1) n (by omega) (by omega)
    have hd : tv_pd (tv_g t w) (m + 1) = if 4 ≤ tv_g t w m then tv_pd (tv_g t w) m - 1 else if tv_g t w m = 0 then tv_pd (tv_g t w) m else tv_pd (tv_g t w) m + 1 := rfl
    rw [hd] at hh
    have e : tv_T t (9 * nI w + nI m).toNatClampNeg = nI (tv_g t w m) := by
      rw [tv_xy, tv_Tc _ (by omega)]
      rfl
    have ei : vp_in (9 * nI w + nI m) 18 := by
      rw [tv_xy]
      exact vp_in_nI (by omega) (by omega)
    refine ⟨vp_in_nI hw (by omega), pk_le (c w) m (fun h => absurd h (by omega)) (fun _ => ⟨ei, nm_r e (pk_eq (tv_g t w m) 0 (fun h0 => ?_) (fun h0 => pk_lt 3 (tv_g t w m) (fun h4 => ?_) (fun h4 => ?_)))⟩) ec⟩
    · rw [if_neg (by omega), if_pos h0] at hh
      exact nm_r (nI_1 m) hh
    · rw [if_pos (show 4 ≤ tv_g t w m from h4)] at hh
      have ep : nI (tv_pd (tv_g t w) m) - 1 = nI (tv_pd (tv_g t w) m - 1) := pk_sub (b := 1) hpm
      exact nm_r ep (nm_r (nI_1 m) hh)
    · rw [if_neg (by omega), if_neg h0] at hh
      exact nm_r (nI_1 _) (nm_r (nI_1 m) hh)
/-- p names no complete formula -/
def tv_F (t c : Nat → Nat) (p : Int32) : Prop := ∀ w, w < 2 → p = nI w → ¬ tv_C t c w
theorem tv_w (p : Int32) : (¬ p = 0 ∧ ¬ p = 1) ∨ ∃ w, w < 2 ∧ p = nI w := by
  by_cases h0 : p = 0
  · exact Or.inr ⟨0, by decide, h0⟩
  · by_cases h1 : p = 1
    · exact Or.inr ⟨1, by decide, h1⟩
    · exact Or.inl ⟨h0, h1⟩
theorem tv_cs (t c : Nat → Nat) (p : Int32) : tv_F t c p ∨ ∃ w, w < 2 ∧ p = nI w ∧ tv_C t c w := by
  rcases tv_w p with h | ⟨w, hw, rfl⟩
  · refine Or.inl fun w hw e => ?_
    have : w = 0 ∨ w = 1 := by omega
    rcases this with rfl | rfl
    · exact absurd e h.1
    · exact absurd e h.2
  · by_cases hc : tv_pd (tv_g t w) (c w) = 0
    · exact Or.inr ⟨w, hw, rfl, hc⟩
    · refine Or.inl fun w' hw' e => ?_
      have : w = w' := (nI_eq (by omega) (by omega)).mp e
      subst this
      exact hc
theorem tv_if1 {post : Int32 → Prop} {w : Nat} (hw : w < 2) (u : SX) (hp : post 1) : wpX_isFormula post u (nI w) := by
  obtain ⟨L, T, C⟩ := u
  exact pk_eq w 0 (fun _ => hp) (fun h => pk_eq w 1 (fun _ => hp) (fun h' => absurd hw (by omega)))
theorem tv_if0 {post : Int32 → Prop} {p : Int32} (h0 : ¬ p = 0) (h1 : ¬ p = 1) (u : SX) (hp : post 0) : wpX_isFormula post u p := by
  obtain ⟨L, T, C⟩ := u
  exact br_f h0 (br_f h1 hp)
theorem tv_cx {post : Int32 → Prop} {w : Nat} {t c : Nat → Nat} (L : Int32) (hw : w < 2) (hG : tv_G t c) (hp1 : tv_C t c w → post 1) (hp0 : ¬ tv_C t c w → post 0) : wpX_complete post (L, tv_T t, tv_T c) (nI w) := by
  obtain ⟨h9c, hpos⟩ := hG.2 w hw
  have hle := tv_pd_le (tv_g t w) (c w)
  unfold wpX_complete
  dsimp only
  refine tv_if1 hw _ (br_f (by decide) ?_)
  exact ⟨c w + 1, tv_mx L hw hG (pk_eq (tv_pd (tv_g t w) (c w)) 0 hp1 hp0) (c w) 0 (c w + 1) (by omega) (by omega)⟩
theorem tv_cx1 {post : Int32 → Prop} {w : Nat} {t c : Nat → Nat} (L : Int32) (hw : w < 2) (hG : tv_G t c) (hc : tv_C t c w) (hp : post 1) : wpX_complete post (L, tv_T t, tv_T c) (nI w) := tv_cx L hw hG (fun _ => hp) (fun h => absurd hc h)
theorem tv_cxF {post : Int32 → Prop} {p : Int32} {t c : Nat → Nat} (L : Int32) (hG : tv_G t c) (hF : tv_F t c p) (hp : post 0) : wpX_complete post (L, tv_T t, tv_T c) p := by
  rcases tv_w p with h | ⟨w, hw, rfl⟩
  · unfold wpX_complete
    dsimp only
    exact tv_if0 h.1 h.2 _ (br_t rfl hp)
  · exact tv_cx L hw hG (fun hc => absurd hc (hF w hw rfl)) (fun _ => hp)
theorem tv_cy {post : Int32 → Prop} {w : Nat} {t c : Nat → Nat} (L : Int32) (K : Nat → Int32) (hw : w < 2) (hG : tv_G t c) (hp1 : tv_C t c w → post 1) (hp0 : ¬ tv_C t c w → post 0) : wpY_complete post (L, tv_T c, tv_T t, K) (nI w) := by
  have H : ∃ n15 : Nat, wY_complete_15 post (nI w) L (tv_T c) (tv_T t) K n15 1 0 := ⟨c w + 1, tv_my L K hw hG hp1 hp0 (c w) 0 (c w + 1) (by omega) (by omega)⟩
  exact pk_eq w 0 (fun _ => H) (fun h => pk_eq w 1 (fun _ => H) (fun h' => absurd hw (by omega)))
theorem tv_cy1 {post : Int32 → Prop} {w : Nat} {t c : Nat → Nat} (L : Int32) (K : Nat → Int32) (hw : w < 2) (hG : tv_G t c) (hc : tv_C t c w) (hp : post 1) : wpY_complete post (L, tv_T c, tv_T t, K) (nI w) := tv_cy L K hw hG (fun _ => hp) (fun h => absurd hc h)
theorem tv_cyF {post : Int32 → Prop} {p : Int32} {t c : Nat → Nat} (L : Int32) (K : Nat → Int32) (hG : tv_G t c) (hF : tv_F t c p) (hp : post 0) : wpY_complete post (L, tv_T c, tv_T t, K) p := by
  rcases tv_w p with h | ⟨w, hw, rfl⟩
  · exact br_f h.1 (br_f h.2 hp)
  · exact tv_cy L K hw hG (fun hc => absurd hc (hF w hw rfl)) (fun _ => hp)
theorem tv_it1 {post : Int32 → Prop} {j : Nat} (hj : j < 3) (u : SX) (hp : post 1) : wpX_isTruthValue post u (nI j) := by
  obtain ⟨L, T, C⟩ := u
  exact br_f (nI_pos (by omega)) (pk_le 3 j (fun h => absurd hj (by omega)) (fun _ => hp))
theorem tv_it0 {post : Int32 → Prop} {p : Int32} (h : p < 0 ∨ 3 ≤ p) (u : SX) (hp : post 0) : wpX_isTruthValue post u p := by
  obtain ⟨L, T, C⟩ := u
  refine br_c (fun _ => hp) (fun h0 => ?_)
  rcases h with h | h
  · exact absurd h h0
  · exact br_t h hp
theorem tv_q3 (q : Int32) : (q < 0 ∨ 3 ≤ q) ∨ ∃ j, j < 3 ∧ q = nI j := by
  rcases pk_ix q (n := 3) (by decide) with h | h | h
  · exact Or.inl (Or.inl h)
  · exact Or.inl (Or.inr h)
  · exact Or.inr h
theorem tv_nv {q : Int32} (h : q < 0 ∨ 3 ≤ q) {v : Nat} (hv : v < 3) : ¬ nI v = q := by
  intro e
  subst e
  rcases h with h | h
  · exact absurd h (nI_pos (by omega))
  · exact absurd h (nI_ge (b := 3) hv (by decide))
/-! the walks over the assignments: one answer for both sides -/
theorem tv_81 {j d : Nat} (h : j + (d + 1) = 81) : ¬ (81 : Int32) ≤ nI j := nI_ge (b := 81) (by omega) (by decide)
theorem tv_80 {j d : Nat} (h : j + (d + 1) = 81) : ¬ (80 : Int32) < nI j := nI_nlt (a := 80) (by omega) (by decide)
theorem tv_81e {j : Nat} (h : j + 0 = 81) : (81 : Int32) ≤ nI j := nI_le (a := 81) (by omega) (by omega)
theorem tv_80e {j : Nat} (h : j + 0 = 81) : (80 : Int32) < nI j := nI_lt (a := 80) (by omega) (by omega)
theorem tv_80n : ¬ (80 : Int32) < 0 := by decide
theorem tv_n10 : ¬ (1 : Int32) = 0 := by decide
section
variable {l : Nat} {t c : Nat → Nat}
theorem tv_find_s {w : Nat} (hl : l < 3) (hG : tv_G t c) (hw : w < 2) (hc : tv_C t c w) (q : Int32) : ∀ d j : Nat, j + d = 81 → ∃ r : Int32, (∀ post : Int32 → Prop, post r → wX_find_20 post (nI w) q (nI l) (tv_T t) (tv_T c) (d + 1) (nI j)) ∧ (∀ (K : Nat → Int32) (post : Int32 → SY → Prop), (∀ K' : Nat → Int32, post r (nI l, tv_T c, tv_T t, K')) → wY_find_2 post (nI w) q (d + 1) (nI j) (nI l) (tv_T c) (tv_T t) K) ∧ ((∀ a, ¬ nI (tv_val l t c w a) = q) → r = -1) := by
  intro d
  induction d with
  | zero =>
    intro j hj
    exact ⟨-1, fun post hp => br_t (tv_81e hj) hp, fun K post hp => br_t (tv_80e hj) (hp K), fun _ => rfl⟩
  | succ d ih =>
    intro j hj
    by_cases z : nI (tv_val l t c w j) = q
    · refine ⟨nI j, fun post hp => br_f (tv_81 hj) (tv_J hl hw (by omega) hG hc (br_t z hp)), fun K post hp => br_f (tv_80 hj) (tv_cy1 _ K hw hG hc (br_f tv_n10 (tv_E K hl hw (by omega) hG hc (fun K' => br_t z (hp K'))))), fun h => absurd z (h j)⟩
    · obtain ⟨r, hX, hY, hN⟩ := ih (j + 1) (by omega)
      exact ⟨r, fun post hp => br_f (tv_81 hj) (tv_J hl hw (by omega) hG hc (br_f z (nm_r (nI_1 j) (hX post hp)))), fun K post hp => br_f (tv_80 hj) (tv_cy1 _ K hw hG hc (br_f tv_n10 (tv_E K hl hw (by omega) hG hc (fun K' => br_f z (nm_r (nI_1 j) (hY K' post hp)))))), hN⟩
theorem tv_values_s {w : Nat} (hl : l < 3) (hG : tv_G t c) (hw : w < 2) (hc : tv_C t c w) : ∀ (d j : Nat) (x : Int32), j + d = 81 → ∃ r : Int32, (∀ post : Int32 → Prop, post r → wX_values_14 post (nI w) (nI l) (tv_T t) (tv_T c) (d + 1) x (nI j)) ∧ (∀ (K : Nat → Int32) (post : Int32 → SY → Prop), (∀ K' : Nat → Int32, post r (nI l, tv_T c, tv_T t, K')) → wY_values_4 post (nI w) (d + 1) x (nI j) (nI l) (tv_T c) (tv_T t) K) := by
  intro d
  induction d with
  | zero =>
    intro j x hj
    exact ⟨x, fun post hp => br_t (tv_81e hj) hp, fun K post hp => br_t (tv_80e hj) (hp K)⟩
  | succ d ih =>
    intro j x hj
    obtain ⟨r, hX, hY⟩ := ih (j + 1) (x ||| ((1 : Int32) <<< (nI (tv_val l t c w j) &&& 31))) (by omega)
    exact ⟨r, fun post hp => br_f (tv_81 hj) (tv_J hl hw (by omega) hG hc (nm_e (nm_r (nI_1 j) (hX post hp)))), fun K post hp => br_f (tv_80 hj) (tv_cy1 _ K hw hG hc (br_f tv_n10 (tv_E K hl hw (by omega) hG hc (fun K' => nm_e (nm_r (nI_1 j) (hY K' post hp))))))⟩
theorem tv_both_s (hl : l < 3) (hG : tv_G t c) (h0 : tv_C t c 0) (h1 : tv_C t c 1) (p q : Int32) : ∀ d j : Nat, j + d = 81 → ∃ r : Int32, (∀ post : Int32 → Prop, post r → wX_findBoth_27 post p q (nI l) (tv_T t) (tv_T c) (d + 1) (nI j)) ∧ (∀ (K : Nat → Int32) (post : Int32 → SY → Prop), (∀ K' : Nat → Int32, post r (nI l, tv_T c, tv_T t, K')) → wY_findBoth_2 post p q (d + 1) (nI j) (nI l) (tv_T c) (tv_T t) K) ∧ ((∀ a, ¬ (nI (tv_val l t c 0 a) = p ∧ nI (tv_val l t c 1 a) = q)) → r = -1) := by
  intro d
  induction d with
  | zero =>
    intro j hj
    exact ⟨-1, fun post hp => br_t (tv_81e hj) hp, fun K post hp => br_t (tv_80e hj) (hp K), fun _ => rfl⟩
  | succ d ih =>
    intro j hj
    have hj' : j < 81 := by omega
    obtain ⟨r, hX, hY, hN⟩ := ih (j + 1) (by omega)
    by_cases z0 : nI (tv_val l t c 0 j) = p
    · by_cases z1 : nI (tv_val l t c 1 j) = q
      · exact ⟨nI j, fun post hp => br_f (tv_81 hj) (tv_J (w := 0) hl (by decide) hj' hG h0 (br_t z0 (tv_J (w := 1) hl (by decide) hj' hG h1 (br_t z1 hp)))), fun K post hp => br_f (tv_80 hj) (tv_cy1 (w := 0) _ K (by decide) hG h0 (br_f tv_n10 (tv_cy1 (w := 1) _ K (by decide) hG h1 (br_f tv_n10 (tv_E (w := 0) K hl (by decide) hj' hG h0 (fun K' => br_t z0 (tv_E (w := 1) K' hl (by decide) hj' hG h1 (fun K'' => br_t z1 (hp K''))))))))), fun h => absurd ⟨z0, z1⟩ (h j)⟩
      · exact ⟨r, fun post hp => br_f (tv_81 hj) (tv_J (w := 0) hl (by decide) hj' hG h0 (br_t z0 (tv_J (w := 1) hl (by decide) hj' hG h1 (br_f z1 (nm_r (nI_1 j) (hX post hp)))))), fun K post hp => br_f (tv_80 hj) (tv_cy1 (w := 0) _ K (by decide) hG h0 (br_f tv_n10 (tv_cy1 (w := 1) _ K (by decide) hG h1 (br_f tv_n10 (tv_E (w := 0) K hl (by decide) hj' hG h0 (fun K' => br_t z0 (tv_E (w := 1) K' hl (by decide) hj' hG h1 (fun K'' => br_f z1 (nm_r (nI_1 j) (hY K'' post hp)))))))))), hN⟩
    · exact ⟨r, fun post hp => br_f (tv_81 hj) (tv_J (w := 0) hl (by decide) hj' hG h0 (br_f z0 (nm_r (nI_1 j) (hX post hp)))), fun K post hp => br_f (tv_80 hj) (tv_cy1 (w := 0) _ K (by decide) hG h0 (br_f tv_n10 (tv_cy1 (w := 1) _ K (by decide) hG h1 (br_f tv_n10 (tv_E (w := 0) K hl (by decide) hj' hG h0 (fun K' => br_f z0 (nm_r (nI_1 j) (hY K' post hp)))))))), hN⟩
theorem tv_ent0 (n : Nat) (x : Int32) (v : SY) (post : Int32 → SY → Prop) (hp : post 0 v) : wY_entails_24 post (n + 1) 0 x v.1 v.2.1 v.2.2.1 v.2.2.2 :=
  br_c (fun _ => ⟨rfl, hp⟩) (fun _ => br_t rfl ⟨rfl, hp⟩)
theorem tv_bel0 (n : Nat) (x : Int32) (v : SY) (post : Int32 → SY → Prop) (hp : post 0 v) : wY_below_24 post (n + 1) 0 x v.1 v.2.1 v.2.2.1 v.2.2.2 :=
  br_c (fun _ => ⟨rfl, hp⟩) (fun _ => br_t rfl ⟨rfl, hp⟩)
theorem tv_ali0 (n : Nat) (x : Int32) (v : SY) (post : Int32 → SY → Prop) (hp : post 0 v) : wY_alike_24 post (n + 1) 0 x v.1 v.2.1 v.2.2.1 v.2.2.2 :=
  br_c (fun _ => ⟨rfl, hp⟩) (fun _ => br_t rfl ⟨rfl, hp⟩)
theorem tv_entails_s (hl : l < 3) (hG : tv_G t c) (h0 : tv_C t c 0) (h1 : tv_C t c 1) : ∀ d j : Nat, j + d = 81 → ∃ r : Int32, (∀ post : Int32 → Prop, post r → wX_entails_11 post (nI l) (tv_T t) (tv_T c) (d + 1) (nI j)) ∧ (∀ (K : Nat → Int32) (post : Int32 → SY → Prop), (∀ K' : Nat → Int32, post r (nI l, tv_T c, tv_T t, K')) → wY_entails_24 post (d + 1) 1 (nI j) (nI l) (tv_T c) (tv_T t) K) := by
  intro d
  induction d with
  | zero =>
    intro j hj
    exact ⟨1, fun post hp => br_t (tv_81e hj) hp, fun K post hp => br_t (tv_80e hj) ⟨rfl, hp K⟩⟩
  | succ d ih =>
    intro j hj
    have hj' : j < 81 := by omega
    obtain ⟨r, hX, hY⟩ := ih (j + 1) (by omega)
    by_cases z0 : nI (tv_val l t c 0 j) = 2
    · by_cases z1 : nI (tv_val l t c 1 j) = 2
      · exact ⟨r, fun post hp => br_f (tv_81 hj) (tv_J (w := 0) hl (by decide) hj' hG h0 (br_t z0 (tv_J (w := 1) hl (by decide) hj' hG h1 (br_t z1 (nm_r (nI_1 j) (hX post hp)))))), fun K post hp => br_f (tv_80 hj) (br_f tv_n10 (tv_E (w := 0) K hl (by decide) hj' hG h0 (fun K' => br_t z0 (tv_E (w := 1) K' hl (by decide) hj' hG h1 (fun K'' => br_t z1 (nm_r (nI_1 j) (hY K'' post hp)))))))⟩
      · exact ⟨0, fun post hp => br_f (tv_81 hj) (tv_J (w := 0) hl (by decide) hj' hG h0 (br_t z0 (tv_J (w := 1) hl (by decide) hj' hG h1 (br_f z1 hp)))), fun K post hp => br_f (tv_80 hj) (br_f tv_n10 (tv_E (w := 0) K hl (by decide) hj' hG h0 (fun K' => br_t z0 (tv_E (w := 1) K' hl (by decide) hj' hG h1 (fun K'' => br_f z1 (nm_e (tv_ent0 d _ (nI l, tv_T c, tv_T t, K'') post (hp K''))))))))⟩
    · exact ⟨r, fun post hp => br_f (tv_81 hj) (tv_J (w := 0) hl (by decide) hj' hG h0 (br_f z0 (nm_r (nI_1 j) (hX post hp)))), fun K post hp => br_f (tv_80 hj) (br_f tv_n10 (tv_E (w := 0) K hl (by decide) hj' hG h0 (fun K' => br_f z0 (nm_r (nI_1 j) (hY K' post hp)))))⟩
theorem tv_below_s (hl : l < 3) (hG : tv_G t c) (h0 : tv_C t c 0) (h1 : tv_C t c 1) : ∀ d j : Nat, j + d = 81 → ∃ r : Int32, (∀ post : Int32 → Prop, post r → wX_below_11 post (nI l) (tv_T t) (tv_T c) (d + 1) (nI j)) ∧ (∀ (K : Nat → Int32) (post : Int32 → SY → Prop), (∀ K' : Nat → Int32, post r (nI l, tv_T c, tv_T t, K')) → wY_below_24 post (d + 1) 1 (nI j) (nI l) (tv_T c) (tv_T t) K) := by
  intro d
  induction d with
  | zero =>
    intro j hj
    exact ⟨1, fun post hp => br_t (tv_81e hj) hp, fun K post hp => br_t (tv_80e hj) ⟨rfl, hp K⟩⟩
  | succ d ih =>
    intro j hj
    have hj' : j < 81 := by omega
    obtain ⟨r, hX, hY⟩ := ih (j + 1) (by omega)
    by_cases z : nI (tv_val l t c 0 j) ≤ nI (tv_val l t c 1 j)
    · have z' : ¬ nI (tv_val l t c 1 j) < nI (tv_val l t c 0 j) := Int32.not_lt.mpr z
      exact ⟨r, fun post hp => br_f (tv_81 hj) (tv_J (w := 0) hl (by decide) hj' hG h0 (tv_J (w := 1) hl (by decide) hj' hG h1 (br_t z (nm_r (nI_1 j) (hX post hp))))), fun K post hp => br_f (tv_80 hj) (br_f tv_n10 (tv_E (w := 0) K hl (by decide) hj' hG h0 (fun K' => tv_E (w := 1) K' hl (by decide) hj' hG h1 (fun K'' => br_f z' (nm_r (nI_1 j) (hY K'' post hp))))))⟩
    · have z' : nI (tv_val l t c 1 j) < nI (tv_val l t c 0 j) := Int32.not_le.mp z
      exact ⟨0, fun post hp => br_f (tv_81 hj) (tv_J (w := 0) hl (by decide) hj' hG h0 (tv_J (w := 1) hl (by decide) hj' hG h1 (br_f z hp))), fun K post hp => br_f (tv_80 hj) (br_f tv_n10 (tv_E (w := 0) K hl (by decide) hj' hG h0 (fun K' => tv_E (w := 1) K' hl (by decide) hj' hG h1 (fun K'' => br_t z' (nm_e (tv_bel0 d _ (nI l, tv_T c, tv_T t, K'') post (hp K'')))))))⟩
theorem tv_alike_s (hl : l < 3) (hG : tv_G t c) (h0 : tv_C t c 0) (h1 : tv_C t c 1) : ∀ d j : Nat, j + d = 81 → ∃ r : Int32, (∀ post : Int32 → Prop, post r → wX_alike_11 post (nI l) (tv_T t) (tv_T c) (d + 1) (nI j)) ∧ (∀ (K : Nat → Int32) (post : Int32 → SY → Prop), (∀ K' : Nat → Int32, post r (nI l, tv_T c, tv_T t, K')) → wY_alike_24 post (d + 1) 1 (nI j) (nI l) (tv_T c) (tv_T t) K) := by
  intro d
  induction d with
  | zero =>
    intro j hj
    exact ⟨1, fun post hp => br_t (tv_81e hj) hp, fun K post hp => br_t (tv_80e hj) ⟨rfl, hp K⟩⟩
  | succ d ih =>
    intro j hj
    have hj' : j < 81 := by omega
    obtain ⟨r, hX, hY⟩ := ih (j + 1) (by omega)
    by_cases z : nI (tv_val l t c 0 j) = nI (tv_val l t c 1 j)
    · exact ⟨r, fun post hp => br_f (tv_81 hj) (tv_J (w := 0) hl (by decide) hj' hG h0 (tv_J (w := 1) hl (by decide) hj' hG h1 (br_t z (nm_r (nI_1 j) (hX post hp))))), fun K post hp => br_f (tv_80 hj) (br_f tv_n10 (tv_E (w := 0) K hl (by decide) hj' hG h0 (fun K' => tv_E (w := 1) K' hl (by decide) hj' hG h1 (fun K'' => br_t z (nm_r (nI_1 j) (hY K'' post hp))))))⟩
    · exact ⟨0, fun post hp => br_f (tv_81 hj) (tv_J (w := 0) hl (by decide) hj' hG h0 (tv_J (w := 1) hl (by decide) hj' hG h1 (br_f z hp))), fun K post hp => br_f (tv_80 hj) (br_f tv_n10 (tv_E (w := 0) K hl (by decide) hj' hG h0 (fun K' => tv_E (w := 1) K' hl (by decide) hj' hG h1 (fun K'' => br_f z (nm_e (tv_ali0 d _ (nI l, tv_T c, tv_T t, K'') post (hp K'')))))))⟩
theorem tv_apart_s {w i : Nat} (hl : l < 3) (hG : tv_G t c) (hw : w < 2) (hc : tv_C t c w) (hi : i < 4) : ∀ d j : Nat, j + d = 81 → ∃ r : Int32, (∀ post : Int32 → Prop, post r → wX_findApart_21 post (nI w) (nI i) (nI l) (tv_T t) (tv_T c) (d + 1) (nI j)) ∧ (∀ (K : Nat → Int32) (post : Int32 → SY → Prop), (∀ K' : Nat → Int32, post r (nI l, tv_T c, tv_T t, K')) → wY_findApart_2 post (nI w) (nI i) (d + 1) (nI j) (nI l) (tv_T c) (tv_T t) K) := by
  have i0 : ¬ nI i < 0 := nI_pos (by omega)
  have i3 : ¬ 3 < nI i := nI_nlt (a := 3) (by omega) (by decide)
  intro d
  induction d with
  | zero =>
    intro j hj
    exact ⟨-1, fun post hp => br_t (tv_81e hj) hp, fun K post hp => br_t (tv_80e hj) (hp K)⟩
  | succ d ih =>
    intro j hj
    have hj' : j < 81 := by omega
    obtain ⟨r, hX, hY⟩ := ih (j + 1) (by omega)
    by_cases z : nI (tv_val l t c w j) = nI (tv_let i j)
    · exact ⟨r, fun post hp => br_f (tv_81 hj) (tv_J hl hw hj' hG hc (tv_lx hi hj' _ _ _ (br_t z (nm_r (nI_1 j) (hX post hp))))), fun K post hp => br_f (tv_80 hj) (tv_cy1 _ K hw hG hc (br_f tv_n10 (br_f i0 (br_f i3 (tv_E K hl hw hj' hG hc (fun K' => tv_ly hi hj' _ _ _ _ (br_t z (nm_r (nI_1 j) (hY K' post hp)))))))))⟩
    · exact ⟨nI j, fun post hp => br_f (tv_81 hj) (tv_J hl hw hj' hG hc (tv_lx hi hj' _ _ _ (br_f z hp))), fun K post hp => br_f (tv_80 hj) (tv_cy1 _ K hw hG hc (br_f tv_n10 (br_f i0 (br_f i3 (tv_E K hl hw hj' hG hc (fun K' => tv_ly hi hj' _ _ _ _ (br_f z (hp K'))))))))⟩
end
