/-! the two states: the same logic, tokens and counts; the reference's stack is free -/
def i_Rel (_ : Nat) (u : SX) (v : SY) : Prop := ∃ (l : Nat) (t c : Nat → Nat) (K : Nat → Int32), u = (nI l, tv_T t, tv_T c) ∧ v = (nI l, tv_T c, tv_T t, K) ∧ l < 3 ∧ tv_G t c
/-- both sides of a call that only reads, one answer -/
def tv_R (X : (Int32 → Prop) → Prop) (Y : (Int32 → SY → Prop) → (Nat → Int32) → Prop) (l : Nat) (t c : Nat → Nat) : Prop := ∃ r : Int32, (∀ post : Int32 → Prop, post r → X post) ∧ (∀ (K : Nat → Int32) (post : Int32 → SY → Prop), (∀ K' : Nat → Int32, post r (nI l, tv_T c, tv_T t, K')) → Y post K)
theorem tv_done {X : (Int32 → Prop) → Prop} {Y : (Int32 → SY → Prop) → (Nat → Int32) → Prop} {l k : Nat} {t c : Nat → Nat} {K : Nat → Int32} (hl : l < 3) (hG : tv_G t c) (h : tv_R X Y l t c) : X (fun r => Y (fun r' v' => r' = r ∧ i_Rel k (nI l, tv_T t, tv_T c) v') K) := by
  obtain ⟨r, hX, hY⟩ := h
  exact hX _ (hY K _ (fun K' => ⟨rfl, l, t, c, K', rfl, rfl, hl, hG⟩))
theorem i_up {k : Nat} {u : SX} {v : SY} (h : i_Rel k u v) : i_Rel (k + 3) u v := h
theorem tv_G0 : tv_G (fun _ => 0) (fun _ => 0) := ⟨fun _ => (by decide : 0 < 8), fun _ _ => ⟨(by decide : 0 ≤ 9), fun i hi => absurd hi (Nat.not_lt_zero i)⟩⟩
theorem tv_rel0 {k l : Nat} (hl : l < 3) : i_Rel k (nI l, (fun _ => 0), (fun _ => 0)) (nI l, (fun _ => 0), (fun _ => 0), (fun _ => 0)) :=
  ⟨l, fun _ => 0, fun _ => 0, fun _ => 0, rfl, rfl, hl, tv_G0⟩
theorem i_vc0 (k0 : Int32) : wpX_init (fun u => wpY_init (fun v => i_Rel 1 u v) k0) k0 := by
  by_cases h0 : 0 ≤ k0
  · obtain ⟨j, hj, rfl⟩ := nI_of (x := k0) (Int32.not_lt.mpr h0)
    refine br_t h0 (pk_lt j 3 (fun h => br_t h0 (pk_le j 2 (fun _ => tv_rel0 h) (fun h' => absurd h' (by omega)))) (fun h => br_t h0 (pk_le j 2 (fun h' => absurd h' (by omega)) (fun _ => tv_rel0 (l := 2) (by decide)))))
  · exact br_f h0 (br_f h0 (tv_rel0 (l := 0) (by decide)))
theorem i_vc_logic {k : Nat} {u : SX} {v : SY} (I : i_Rel k u v) (hk : k + 3 ≤ 1537) : wpX_logic (fun r => wpY_logic (fun r' => r' = r ∧ i_Rel (k + 3) u v) v) u := by
  obtain ⟨l, t, c, K, rfl, rfl, hl, hG⟩ := I
  exact ⟨rfl, l, t, c, K, rfl, rfl, hl, hG⟩
theorem i_vc_setLogic {k : Nat} {u : SX} {v : SY} (I : i_Rel k u v) (hk : k + 3 ≤ 1537) (v1 : Int32) : wpX_setLogic (fun r u' => wpY_setLogic (fun r' v' => r' = r ∧ i_Rel (k + 3) u' v') v v1) u v1 := by
  obtain ⟨l, t, c, K, rfl, rfl, hl, hG⟩ := I
  have hR : i_Rel (k + 3) (nI l, tv_T t, tv_T c) (nI l, tv_T c, tv_T t, K) := ⟨l, t, c, K, rfl, rfl, hl, hG⟩
  by_cases h0 : v1 < 0
  · exact br_t h0 (br_t h0 ⟨rfl, hR⟩)
  · obtain ⟨j, hj, rfl⟩ := nI_of h0
    exact br_f h0 (pk_lt j 3 (fun h => br_f h0 (pk_le j 2 (fun _ => ⟨rfl, j, t, c, K, rfl, rfl, h, hG⟩) (fun h' => absurd h' (by omega)))) (fun h => br_f h0 (pk_le j 2 (fun h' => absurd h' (by omega)) (fun _ => ⟨rfl, hR⟩))))
theorem tv_Gfeed {t c : Nat → Nat} {w k : Nat} (hG : tv_G t c) (hw : w < 2) (hk : k < 8) (h9 : c w < 9) (hc : ¬ tv_C t c w) : tv_G (tv_put t (9 * w + c w) k) (tv_put c w (c w + 1)) := by
  refine ⟨fun j => ?_, fun w' hw' => ?_⟩
  · unfold tv_put
    split
    · exact hk
    · exact hG.1 j
  · obtain ⟨h9', hpos⟩ := hG.2 w' hw'
    by_cases e : w' = w
    · subst e
      have ec : tv_put c w' (c w' + 1) w' = c w' + 1 := if_pos rfl
      rw [ec]
      refine ⟨by omega, fun i hi => ?_⟩
      have ep : tv_pd (tv_g (tv_put t (9 * w' + c w') k) w') i = tv_pd (tv_g t w') i := tv_pd_eq i (fun i' hi' => if_neg (by omega))
      rw [ep]
      by_cases hi2 : i < c w'
      · exact hpos i hi2
      · obtain rfl : i = c w' := by omega
        exact Nat.pos_of_ne_zero hc
    · have ec : tv_put c w (c w + 1) w' = c w' := if_neg e
      rw [ec]
      refine ⟨h9', fun i hi => ?_⟩
      have ep : tv_pd (tv_g (tv_put t (9 * w + c w) k) w') i = tv_pd (tv_g t w') i := tv_pd_eq i (fun i' hi' => if_neg (by omega))
      rw [ep]
      exact hpos i hi
theorem tv_Gback {t c : Nat → Nat} {w : Nat} (hG : tv_G t c) : tv_G t (tv_put c w (c w - 1)) := by
  refine ⟨hG.1, fun w' hw' => ?_⟩
  obtain ⟨h9', hpos⟩ := hG.2 w' hw'
  have hle : tv_put c w (c w - 1) w' ≤ c w' := by
    unfold tv_put
    split
    · rename_i e
      subst e
      omega
    · exact Nat.le_refl _
  exact ⟨by omega, fun i hi => hpos i (by omega)⟩
theorem tv_putS (f : Nat → Nat) (w x : Nat) : tv_put f w x w = x := if_pos rfl
theorem i_vc_feed {k : Nat} {u : SX} {v : SY} (I : i_Rel k u v) (hk : k + 3 ≤ 1537) (v1 : Int32) (v2 : Int32) : wpX_feed (fun r u' => wpY_feed (fun r' v' => r' = r ∧ i_Rel (k + 3) u' v') v v1 v2) u v1 v2 := by
  obtain ⟨l, t, c, K, rfl, rfl, hl, hG⟩ := I
  have hR : i_Rel (k + 3) (nI l, tv_T t, tv_T c) (nI l, tv_T c, tv_T t, K) := ⟨l, t, c, K, rfl, rfl, hl, hG⟩
  unfold wpX_feed
  dsimp only
  rcases tv_w v1 with h | ⟨w, hw, rfl⟩
  · exact tv_if0 h.1 h.2 _ (br_t rfl (br_f h.1 (br_f h.2 ⟨rfl, hR⟩)))
  · have HY : ∀ post : Int32 → SY → Prop, wY_feed_9 post (nI w) v2 (nI l) (tv_T c) (tv_T t) K → wpY_feed post (nI l, tv_T c, tv_T t, K) (nI w) v2 := fun post H => pk_eq w 0 (fun _ => H) (fun h => pk_eq w 1 (fun _ => H) (fun h' => absurd hw (by omega)))
    refine tv_if1 hw _ (br_f tv_n10 ?_)
    by_cases h0 : v2 < 0
    · exact br_t h0 (HY _ (br_t h0 ⟨rfl, hR⟩))
    · obtain ⟨j, hj, rfl⟩ := nI_of h0
      obtain ⟨h9c, _⟩ := hG.2 w hw
      have iw : vp_in (nI w) 2 := vp_in_nI hw (by decide)
      have ec := tv_Tc c (w := w) (by omega)
      refine br_f h0 (pk_lt j 8 (fun h8 => ?_) (fun h8 => HY _ (br_f h0 (pk_lt 7 j (fun _ => ⟨rfl, hR⟩) (fun h' => absurd h' (by omega))))))
      have n7 : ¬ (7 : Int32) < nI j := nI_nlt (a := 7) (by omega) (by decide)
      by_cases hc : tv_C t c w
      · exact tv_cx1 _ hw hG hc (br_f tv_n10 (HY _ (br_f h0 (br_f n7 (tv_cy1 _ K hw hG hc (br_f tv_n10 ⟨rfl, hR⟩))))))
      · refine tv_cx _ hw hG (fun h => absurd h hc) (fun _ => br_t rfl ⟨iw, pk_lt (c w) 9 (fun h9 => ?_) (fun h9 => ?_) ec⟩)
        · have hn : tv_G (tv_put t (9 * w + c w) j) (tv_put c w (c w + 1)) := tv_Gfeed hG hw h8 h9 hc
          have ex : nI w * 9 + tv_T c (nI w).toNatClampNeg = nI (9 * w + c w) := by rw [ec, tv_xx]
          have ey : 9 * nI w + tv_T c (nI w).toNatClampNeg = nI (9 * w + c w) := by rw [ec, tv_xy]
          have ux : upd (tv_T t) (nI w * 9 + tv_T c (nI w).toNatClampNeg).toNatClampNeg (nI j) = tv_T (tv_put t (9 * w + c w) j) := by rw [ex, nI_clamp (by omega), tv_upd]
          have uy : upd (tv_T t) (9 * nI w + tv_T c (nI w).toNatClampNeg).toNatClampNeg (nI j) = tv_T (tv_put t (9 * w + c w) j) := by rw [ey, nI_clamp (by omega), tv_upd]
          have uc : upd (tv_T c) (nI w).toNatClampNeg (tv_T c (nI w).toNatClampNeg + 1) = tv_T (tv_put c w (c w + 1)) := by rw [ec, nI_clamp (by omega), nI_1, tv_upd]
          have ix : vp_in (nI w * 9 + tv_T c (nI w).toNatClampNeg) 18 := by rw [ex]; exact vp_in_nI (by omega) (by omega)
          have iy : vp_in (9 * nI w + tv_T c (nI w).toNatClampNeg) 18 := by rw [ey]; exact vp_in_nI (by omega) (by omega)
          refine ⟨iw, ix, nm_r ux ⟨iw, iw, nm_r uc ⟨iw, HY _ (br_f h0 (br_f n7 (tv_cy _ K hw hG (fun h => absurd h hc) (fun _ => br_t rfl ⟨iw, pk_lt (c w) 9 (fun _ => ⟨iw, iy, nm_r uy ⟨iw, iw, nm_r uc ⟨iw, rfl, l, _, _, K, rfl, rfl, hl, hn⟩⟩⟩) (fun h' => absurd h9 (by omega)) ec⟩))))⟩⟩⟩
        · exact HY _ (br_f h0 (br_f n7 (tv_cy _ K hw hG (fun h => absurd h hc) (fun _ => br_t rfl ⟨iw, pk_lt (c w) 9 (fun h' => absurd h' (by omega)) (fun _ => ⟨rfl, hR⟩) ec⟩))))
theorem i_vc_back {k : Nat} {u : SX} {v : SY} (I : i_Rel k u v) (hk : k + 3 ≤ 1537) (v1 : Int32) : wpX_back (fun r u' => wpY_back (fun r' v' => r' = r ∧ i_Rel (k + 3) u' v') v v1) u v1 := by
  obtain ⟨l, t, c, K, rfl, rfl, hl, hG⟩ := I
  have hR : i_Rel (k + 3) (nI l, tv_T t, tv_T c) (nI l, tv_T c, tv_T t, K) := ⟨l, t, c, K, rfl, rfl, hl, hG⟩
  unfold wpX_back
  dsimp only
  rcases tv_w v1 with h | ⟨w, hw, rfl⟩
  · exact tv_if0 h.1 h.2 _ (br_t rfl (br_f h.1 (br_f h.2 ⟨rfl, hR⟩)))
  · have HY : ∀ post : Int32 → SY → Prop, wY_back_9 post (nI w) (nI l) (tv_T c) (tv_T t) K → wpY_back post (nI l, tv_T c, tv_T t, K) (nI w) := fun post H => pk_eq w 0 (fun _ => H) (fun h => pk_eq w 1 (fun _ => H) (fun h' => absurd hw (by omega)))
    obtain ⟨h9c, _⟩ := hG.2 w hw
    have iw : vp_in (nI w) 2 := vp_in_nI hw (by decide)
    have ec := tv_Tc c (w := w) (by omega)
    refine tv_if1 hw _ (br_f tv_n10 ⟨iw, pk_eq (c w) 0 (fun h0 => HY _ ⟨iw, pk_eq (c w) 0 (fun _ => ⟨rfl, hR⟩) (fun h' => absurd h0 h') ec⟩) (fun h0 => ?_) ec⟩)
    have ep : nI (c w) - 1 = nI (c w - 1) := pk_sub (b := 1) (by omega)
    have uc : upd (tv_T c) (nI w).toNatClampNeg (tv_T c (nI w).toNatClampNeg - 1) = tv_T (tv_put c w (c w - 1)) := by rw [ec, nI_clamp (by omega), ep, tv_upd]
    have ec' : tv_T (tv_put c w (c w - 1)) (nI w).toNatClampNeg = nI (c w - 1) := by rw [tv_Tc _ (by omega), tv_putS]
    have ex : nI w * 9 + tv_T (tv_put c w (c w - 1)) (nI w).toNatClampNeg = nI (9 * w + (c w - 1)) := by rw [ec', tv_xx]
    have ey : 9 * nI w + tv_T (tv_put c w (c w - 1)) (nI w).toNatClampNeg = nI (9 * w + (c w - 1)) := by rw [ec', tv_xy]
    have ix : vp_in (nI w * 9 + tv_T (tv_put c w (c w - 1)) (nI w).toNatClampNeg) 18 := by rw [ex]; exact vp_in_nI (by omega) (by omega)
    have iy : vp_in (9 * nI w + tv_T (tv_put c w (c w - 1)) (nI w).toNatClampNeg) 18 := by rw [ey]; exact vp_in_nI (by omega) (by omega)
    exact ⟨iw, iw, nm_r uc ⟨iw, ix, HY _ ⟨iw, pk_eq (c w) 0 (fun h' => absurd h' h0) (fun _ => ⟨iw, iw, nm_r uc ⟨iw, iy, by rw [ex, ey], l, t, _, K, rfl, rfl, hl, tv_Gback hG⟩⟩) ec⟩⟩⟩
theorem i_vc_complete {k : Nat} {u : SX} {v : SY} (I : i_Rel k u v) (hk : k + 3 ≤ 1537) (v1 : Int32) : wpX_complete (fun r => wpY_complete (fun r' => r' = r ∧ i_Rel (k + 3) u v) v v1) u v1 := by
  obtain ⟨l, t, c, K, rfl, rfl, hl, hG⟩ := I
  have hR : i_Rel (k + 3) (nI l, tv_T t, tv_T c) (nI l, tv_T c, tv_T t, K) := ⟨l, t, c, K, rfl, rfl, hl, hG⟩
  rcases tv_cs t c v1 with hF | ⟨w, hw, rfl, hc⟩
  · exact tv_cxF _ hG hF (tv_cyF _ K hG hF ⟨rfl, hR⟩)
  · exact tv_cx1 _ hw hG hc (tv_cy1 _ K hw hG hc ⟨rfl, hR⟩)
