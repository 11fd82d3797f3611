section
/-! rows of kit/rows/PURE-ROWS, then my own -/
theorem pk_us {f : Nat → Int32} {k : Nat} {x : Int32} : upd f k x k = x := if_pos rfl
theorem pk_un {f : Nat → Int32} {k j : Nat} {x : Int32} (h : j ≠ k) : upd f k x j = f j := if_neg h
theorem pk_sub {a b : Nat} (h : b ≤ a) : nI a - nI b = nI (a - b) := by
  obtain ⟨c, rfl⟩ : ∃ c, a = c + b := ⟨a - b, by omega⟩
  rw [← nI_add, Int32.add_sub_cancel, Nat.add_sub_cancel]
theorem pk_m1 (n : Nat) : nI (n + 1) + (-1) = nI n := by
  rw [← nI_1, Int32.add_assoc, show (1 : Int32) + (-1) = 0 from rfl, Int32.add_zero]
theorem pk_mul (a b : Nat) : nI a * nI b = nI (a * b) := (Int32.ofNat_mul a b).symm
theorem pk_div {a d : Nat} (ha : a < 2 ^ 31) (h0 : 0 < d) (hd : d < 2 ^ 31) : nI a / nI d = nI (a / d) := by
  apply Int32.toInt_inj.mp
  rw [lg_idiv_nonneg (by rw [nI_toInt ha]; omega) (by rw [nI_toInt hd]; omega), nI_toInt ha, nI_toInt hd, nI_toInt (Nat.lt_of_le_of_lt (Nat.div_le_self a d) ha)]
  first | rfl | exact (Int.natCast_ediv _ _).symm
theorem pk_rem {a d : Nat} (ha : a < 2 ^ 31) (h0 : 0 < d) (hd : d < 2 ^ 31) : nI a - nI a / nI d * nI d = nI (a % d) := by
  rw [pk_div ha h0 hd, pk_mul, pk_sub (Nat.div_mul_le_self a d)]
  exact congrArg nI (by have := Nat.div_add_mod' a d; omega)
theorem pk_ix (x : Int32) {n : Nat} (hn : n < 2 ^ 31) : x < 0 ∨ nI n ≤ x ∨ ∃ j : Nat, j < n ∧ x = nI j := by
  by_cases h : x < 0
  · exact Or.inl h
  · obtain ⟨j, hj, rfl⟩ := nI_of h
    by_cases h2 : j < n
    · exact Or.inr (Or.inr ⟨j, h2, rfl⟩)
    · exact Or.inr (Or.inl (nI_le (by omega) hj))
theorem pk_le {x y : Int32} {A B : Prop} (a b : Nat) (f : a ≤ b → A) (g : b < a → B) (hx : x = nI a := by rfl) (hy : y = nI b := by rfl) (ha : a < 2 ^ 31 := by omega) (hb : b < 2 ^ 31 := by omega) : (x ≤ y → A) ∧ (¬ x ≤ y → B) := by
  subst hx hy
  rw [nI_leI ha hb]
  exact ⟨f, fun z => g (by omega)⟩
theorem pk_lt {x y : Int32} {A B : Prop} (a b : Nat) (f : a < b → A) (g : b ≤ a → B) (hx : x = nI a := by rfl) (hy : y = nI b := by rfl) (ha : a < 2 ^ 31 := by omega) (hb : b < 2 ^ 31 := by omega) : (x < y → A) ∧ (¬ x < y → B) := by
  subst hx hy
  rw [nI_ltI ha hb]
  exact ⟨f, fun z => g (by omega)⟩
theorem pk_eq {x y : Int32} {A B : Prop} (a b : Nat) (f : a = b → A) (g : a ≠ b → B) (hx : x = nI a := by rfl) (hy : y = nI b := by rfl) (ha : a < 2 ^ 31 := by omega) (hb : b < 2 ^ 31 := by omega) : (x = y → A) ∧ (¬ x = y → B) := by
  subst hx hy
  rw [nI_eq ha hb]
  exact ⟨f, g⟩
theorem pk_in {x : Int32} (n N : Nat) (h : n < N) (hx : x = nI n := by rfl) (hN : N < 2 ^ 31 := by omega) : vp_in x N := by
  subst hx
  exact vp_in_nI h hN
theorem pk_cl {x : Int32} (n : Nat) (hx : x = nI n := by rfl) (h : n < 2 ^ 31 := by omega) : x.toNatClampNeg = n := by
  subst hx
  exact nI_clamp h
theorem pk_tn {n : Nat} (h : n < 2 ^ 32) : (nI n).toBitVec.toNat = n := Nat.mod_eq_of_lt h
theorem pk_and (x : Int32) {m : Int32} (k : Nat) (hm : m.toBitVec.toNat = 2 ^ k - 1) : x &&& m = nI (x.toBitVec.toNat % 2 ^ k) := by
  apply Int32.toBitVec_inj.mp
  apply BitVec.eq_of_toNat_eq
  rw [Int32.toBitVec_and, BitVec.toNat_and, hm, Nat.and_two_pow_sub_one_eq_mod]
  show _ = (BitVec.ofNat 32 _).toNat
  rw [BitVec.toNat_ofNat]
  exact (Nat.mod_eq_of_lt (Nat.lt_of_le_of_lt (Nat.mod_le _ _) x.toBitVec.isLt)).symm
theorem pk_andN {n : Nat} (h : n < 2 ^ 32) {m : Int32} (k : Nat) (hm : m.toBitVec.toNat = 2 ^ k - 1) : nI n &&& m = nI (n % 2 ^ k) := by
  rw [pk_and _ k hm, pk_tn h]
theorem pk_shl (a s : Int32) (k : Nat) (hs : (s.toBitVec.smod 32).toNat = k) : (a <<< s).toBitVec.toNat = a.toBitVec.toNat * 2 ^ k % 2 ^ 32 := by
  show (a.toBitVec <<< (s.toBitVec.smod 32).toNat).toNat = _
  rw [hs, BitVec.toNat_shiftLeft, Nat.shiftLeft_eq]
theorem pk_shlN {n : Nat} (s : Int32) (k : Nat) (hs : (s.toBitVec.smod 32).toNat = k) (h : n * 2 ^ k < 2 ^ 32) : nI n <<< s = nI (n * 2 ^ k) := by
  apply Int32.toBitVec_inj.mp
  apply BitVec.eq_of_toNat_eq
  have hn : n < 2 ^ 32 := Nat.lt_of_le_of_lt (Nat.le_mul_of_pos_right n (Nat.two_pow_pos k)) h
  rw [pk_shl _ _ k hs, pk_tn hn, pk_tn h, Nat.mod_eq_of_lt h]
theorem pk_shr (a s : Int32) (k : Nat) (hs : (s.toBitVec.smod 32).toNat = k) : (a >>> s).toInt = a.toInt >>> k := by
  show (a.toBitVec.sshiftRight (s.toBitVec.smod 32).toNat).toInt = _
  rw [hs, BitVec.toInt_sshiftRight]
  rfl
theorem pk_shrN {n : Nat} (h : n < 2 ^ 31) (s : Int32) (k : Nat) (hs : (s.toBitVec.smod 32).toNat = k) : nI n >>> s = nI (n / 2 ^ k) := by
  apply Int32.toInt_inj.mp
  have h2 : n / 2 ^ k ≤ n := Nat.div_le_self _ _
  rw [pk_shr _ _ k hs, nI_toInt h, nI_toInt (by omega), Int.shiftRight_eq_div_pow]
  rfl
/-! pure part: packed and listed stacks, the connectives, the pending count -/
theorem tv_pv {post : Int32 → Prop} {a : Nat} {y : Int32} (hp : post (nI a)) (b : Nat) (e : a = b) (hy : y = nI b := by rfl) : post y := by
  subst hy e
  exact hp
theorem tv_m1 (m : Nat) : nI m + (-1) = nI m - 1 := (Int32.sub_eq_add_neg (a := nI m) (b := 1)).symm
theorem tv_or {e v : Nat} (he : e < 2 ^ 24) (hv : v < 4) : (nI e <<< ((2 : Int32) &&& 31)) ||| nI v = nI (e * 4 + v) := by
  rw [pk_shlN _ 2 (by decide) (by omega)]
  apply Int32.toBitVec_inj.mp
  apply BitVec.eq_of_toNat_eq
  rw [Int32.toBitVec_or, BitVec.toNat_or, pk_tn (by omega), pk_tn (by omega), pk_tn (by omega)]
  rw [← Nat.shiftLeft_eq, ← Nat.shiftLeft_add_eq_or_of_lt (by omega), Nat.shiftLeft_eq]
theorem tv_and {e v : Nat} (he : e < 2 ^ 24) (hv : v < 4) : nI (e * 4 + v) &&& 3 = nI v := by
  rw [pk_andN (by omega) 2 (by decide)]
  exact congrArg nI (by omega)
theorem tv_shr {e v : Nat} (he : e < 2 ^ 24) (hv : v < 4) : nI (e * 4 + v) >>> ((2 : Int32) &&& 31) = nI e := by
  rw [pk_shrN (by omega) _ 2 (by decide)]
  exact congrArg nI (by omega)
def tv_neg (l x : Nat) : Nat := if l = 2 then (if x = 0 then 2 else 0) else 2 - x
def tv_imp (l x y : Nat) : Nat := if l = 0 then (if 2 ≤ 2 - x + y then 2 else 2 - x + y) else if l = 1 then (if 2 - x ≤ y then y else 2 - x) else if y < x then y else 2
def tv_bin (l k x y : Nat) : Nat := if k = 1 then (if y ≤ x then y else x) else if k = 2 then (if x ≤ y then y else x) else tv_imp l x y
def tv_let (i a : Nat) : Nat := a / 3 ^ i % 3
def tv_step (l a k : Nat) (s : List Nat) : List Nat :=
  if 4 ≤ k then tv_let (k - 4) a :: s else if k = 0 then tv_neg l (s.headD 0) :: s.tail else tv_bin l k (s.headD 0) (s.tail.headD 0) :: s.tail.tail
def tv_run (l a : Nat) (g : Nat → Nat) : Nat → List Nat → List Nat
  | 0, s => s
  | m + 1, s => tv_run l a g m (tv_step l a (g m) s)
def tv_pd (g : Nat → Nat) : Nat → Nat
  | 0 => 1
  | m + 1 => if 4 ≤ g m then tv_pd g m - 1 else if g m = 0 then tv_pd g m else tv_pd g m + 1
def tv_enc : List Nat → Nat
  | [] => 0
  | x :: s => tv_enc s * 4 + x
def tv_rp (K : Nat → Int32) : List Nat → Prop
  | [] => True
  | x :: s => K s.length = nI x ∧ tv_rp K s
def tv_o3 : List Nat → Prop
  | [] => True
  | x :: s => x < 3 ∧ tv_o3 s
def tv_g (t : Nat → Nat) (w : Nat) (i : Nat) : Nat := t (9 * w + i)
def tv_T (t : Nat → Nat) (j : Nat) : Int32 := nI (t j)
def tv_G (t c : Nat → Nat) : Prop := (∀ j, t j < 8) ∧ ∀ w, w < 2 → c w ≤ 9 ∧ ∀ i, i < c w → 1 ≤ tv_pd (tv_g t w) i
def tv_val (l : Nat) (t c : Nat → Nat) (w a : Nat) : Nat := (tv_run l a (tv_g t w) (c w) []).headD 0
def tv_put (f : Nat → Nat) (k x : Nat) (j : Nat) : Nat := if j = k then x else f j
theorem tv_upd (f : Nat → Nat) (k x : Nat) : upd (tv_T f) k (nI x) = tv_T (tv_put f k x) := by
  funext j
  show (if j = k then nI x else nI (f j)) = nI (if j = k then x else f j)
  split <;> rfl
theorem tv_Tc (f : Nat → Nat) {w : Nat} (h : w < 2 ^ 31) : tv_T f (nI w).toNatClampNeg = nI (f w) := by
  rw [nI_clamp h]
  rfl
theorem tv_neg_lt {l x : Nat} (hx : x < 3) : tv_neg l x < 3 := by
  unfold tv_neg
  (repeat' split) <;> omega
theorem tv_imp_lt {l x y : Nat} (hx : x < 3) (hy : y < 3) : tv_imp l x y < 3 := by
  unfold tv_imp
  (repeat' split) <;> omega
theorem tv_bin_lt {l k x y : Nat} (hx : x < 3) (hy : y < 3) : tv_bin l k x y < 3 := by
  have h := tv_imp_lt (l := l) hx hy
  unfold tv_bin
  (repeat' split) <;> omega
theorem tv_let_lt (i a : Nat) : tv_let i a < 3 := Nat.mod_lt _ (by decide)
theorem tv_enc_lt : ∀ s : List Nat, tv_o3 s → tv_enc s < 4 ^ s.length
  | [], _ => by decide
  | x :: s, h => by
    have ih := tv_enc_lt s h.2
    have hx := h.1
    show tv_enc s * 4 + x < 4 ^ (s.length + 1)
    rw [Nat.pow_succ]
    omega
theorem tv_enc9 {s : List Nat} (h : tv_o3 s) (hl : s.length ≤ 9) : tv_enc s < 2 ^ 18 :=
  Nat.lt_of_lt_of_le (tv_enc_lt s h) (Nat.le_trans (Nat.pow_le_pow_right (by decide) hl) (by decide))
theorem tv_rpU {K : Nat → Int32} {j : Nat} {z : Int32} : ∀ s : List Nat, tv_rp K s → s.length ≤ j → tv_rp (upd K j z) s
  | [], _, _ => trivial
  | x :: s, h, hj => by
    have hj' : s.length + 1 ≤ j := hj
    exact ⟨(pk_un (by omega)).trans h.1, tv_rpU s h.2 (by omega)⟩
theorem tv_pd_le (g : Nat → Nat) : ∀ m, tv_pd g m ≤ m + 1
  | 0 => Nat.le_refl 1
  | m + 1 => by
    have ih := tv_pd_le g m
    unfold tv_pd
    (repeat' split) <;> omega
theorem tv_pd_eq {g g' : Nat → Nat} : ∀ m, (∀ i, i < m → g i = g' i) → tv_pd g m = tv_pd g' m
  | 0, _ => rfl
  | m + 1, h => by
    have ih := tv_pd_eq m (fun i hi => h i (by omega))
    have hm := h m (by omega)
    unfold tv_pd
    rw [ih, hm]
theorem tv_o3_step {l a k : Nat} : ∀ s : List Nat, tv_o3 s → tv_o3 (tv_step l a k s) := by
  intro s h
  have h0 : s.headD 0 < 3 := by
    cases s with
    | nil => decide
    | cons x s => exact h.1
  have ht : tv_o3 s.tail := by
    cases s with
    | nil => trivial
    | cons x s => exact h.2
  have h1 : s.tail.headD 0 < 3 := by
    cases hs : s.tail with
    | nil => decide
    | cons x r => rw [hs] at ht; exact ht.1
  have htt : tv_o3 s.tail.tail := by
    cases hs : s.tail with
    | nil => trivial
    | cons x r => rw [hs] at ht; exact ht.2
  unfold tv_step
  split
  · exact ⟨tv_let_lt _ _, h⟩
  · split
    · exact ⟨tv_neg_lt h0, ht⟩
    · exact ⟨tv_bin_lt h0 h1, htt⟩
theorem tv_o3_run {l a : Nat} {g : Nat → Nat} : ∀ (m : Nat) (s : List Nat), tv_o3 s → tv_o3 (tv_run l a g m s)
  | 0, _, h => h
  | m + 1, s, h => tv_o3_run m _ (tv_o3_step s h)
theorem tv_val_lt (l : Nat) (t c : Nat → Nat) (w a : Nat) : tv_val l t c w a < 3 := by
  have h := tv_o3_run (l := l) (a := a) (g := tv_g t w) (c w) [] trivial
  unfold tv_val
  cases hs : tv_run l a (tv_g t w) (c w) [] with
  | nil => decide
  | cons x r => rw [hs] at h; exact h.1
end
section
/-! letters, connectives: both sides against the pure functions -/
theorem tv_lx0 {post : Int32 → Prop} {i : Nat} (hi : i < 4) (L : Int32) (T C : Nat → Int32) : ∀ d j b n : Nat, j + d = i → d < n → b < 2 ^ 31 → post (nI (b / 3 ^ d % 3)) → wX_letterValue_5 post (nI i) L T C n (nI b) (nI j) := by
  intro d
  induction d with
  | zero =>
    intro j b n hj hn hb hp
    obtain ⟨n, rfl⟩ : ∃ q, n = q + 1 := ⟨n - 1, by omega⟩
    have e : nI b - nI b / 3 * 3 = nI (b % 3) := pk_rem hb (by decide) (by decide)
    have e1 : b / 3 ^ 0 = b := by simp
    rw [e1] at hp
    exact br_t (nI_le (by omega) (by omega)) ⟨by decide, by rw [e]; exact hp⟩
  | succ d ih =>
    intro j b n hj hn hb hp
    obtain ⟨n, rfl⟩ : ∃ q, n = q + 1 := ⟨n - 1, by omega⟩
    have e : nI b / 3 = nI (b / 3) := pk_div hb (by decide) (by decide)
    refine br_f (nI_ge (by omega) (by omega)) ⟨by decide, nm_r e (nm_r (nI_1 j) (ih (j + 1) (b / 3) n (by omega) (by omega) (by omega) ?_))⟩
    rw [Nat.div_div_eq_div_mul, ← Nat.pow_succ']
    exact hp
theorem tv_lx {post : Int32 → Prop} {i a : Nat} (hi : i < 4) (ha : a < 81) (L : Int32) (T C : Nat → Int32) (hp : post (nI (tv_let i a))) : wpX_letterValue post (L, T, C) (nI i) (nI a) :=
  ⟨i + 1, tv_lx0 hi L T C i 0 a (i + 1) (by omega) (by omega) (by omega) hp⟩
theorem tv_ly {post : Int32 → Prop} {i a : Nat} (hi : i < 4) (ha : a < 81) (L : Int32) (S T K : Nat → Int32) (hp : post (nI (tv_let i a))) : wpY_letter post (L, S, T, K) (nI i) (nI a) := by
  have e0 : nI a - nI a / 3 * 3 = nI (a % 3) := pk_rem (by omega) (by decide) (by decide)
  have e1 : nI a / 3 = nI (a / 3) := pk_div (by omega) (by decide) (by decide)
  have e2 : nI a / 9 = nI (a / 9) := pk_div (by omega) (by decide) (by decide)
  have e3 : nI a / 27 = nI (a / 27) := pk_div (by omega) (by decide) (by decide)
  have f1 : nI (a / 3) - nI (a / 3) / 3 * 3 = nI (a / 3 % 3) := pk_rem (by omega) (by decide) (by decide)
  have f2 : nI (a / 9) - nI (a / 9) / 3 * 3 = nI (a / 9 % 3) := pk_rem (by omega) (by decide) (by decide)
  refine pk_eq i 0 (fun h => ⟨by decide, ?_⟩) (fun h0 => pk_eq i 1 (fun h => ⟨by decide, by decide, ?_⟩) (fun h1 => pk_eq i 2 (fun h => ⟨by decide, by decide, ?_⟩) (fun h2 => ⟨by decide, ?_⟩)))
  · subst h
    rw [e0]
    exact tv_pv hp (a % 3) (by unfold tv_let; omega)
  · subst h
    rw [e1, f1]
    exact tv_pv hp (a / 3 % 3) (by unfold tv_let; omega)
  · subst h
    rw [e2, f2]
    exact tv_pv hp (a / 9 % 3) (by unfold tv_let; omega)
  · obtain rfl : i = 3 := by omega
    rw [e3]
    exact tv_pv hp (a / 27) (by unfold tv_let; omega)
theorem tv_nx {post : Int32 → Prop} {l x : Nat} (hl : l < 3) (hx : x < 3) (T C : Nat → Int32) (hp : post (nI (tv_neg l x))) : wpX_negated post (nI l, T, C) (nI x) := by
  refine pk_eq l 2 (fun h => pk_eq x 0 (fun h' => ?_) (fun h' => ?_)) (fun h => ?_)
  · exact tv_pv hp 2 (by unfold tv_neg; (repeat' split) <;> omega)
  · exact tv_pv hp 0 (by unfold tv_neg; (repeat' split) <;> omega)
  · exact tv_pv hp (2 - x) (by unfold tv_neg; (repeat' split) <;> omega) (pk_sub (a := 2) (by omega))
theorem tv_ny {post : Int32 → Prop} {l x : Nat} (hl : l < 3) (hx : x < 3) (S T K : Nat → Int32) (hp : post (nI (tv_neg l x))) : wpY_not post (nI l, S, T, K) (nI x) := by
  refine pk_le 2 l (fun h => pk_eq x 0 (fun h' => ?_) (fun h' => ?_)) (fun h => ?_)
  · exact tv_pv hp 2 (by unfold tv_neg; (repeat' split) <;> omega)
  · exact tv_pv hp 0 (by unfold tv_neg; (repeat' split) <;> omega)
  · exact tv_pv hp (2 - x) (by unfold tv_neg; (repeat' split) <;> omega) (pk_sub (a := 2) (by omega))
theorem tv_px {post : Int32 → Prop} {l x y : Nat} (hl : l < 3) (hx : x < 3) (hy : y < 3) (T C : Nat → Int32) (hp : post (nI (tv_imp l x y))) : wpX_implied post (nI l, T, C) (nI x) (nI y) := by
  have e2 : 2 - nI x = nI (2 - x) := pk_sub (a := 2) (by omega)
  refine pk_eq l 2 (fun h => pk_lt y x (fun h' => ?_) (fun h' => ?_)) (fun h => nm_r e2 (pk_eq l 1 (fun h1 => pk_le (2 - x) y (fun h2 => ?_) (fun h2 => ?_)) (fun h1 => nm_r (nI_add (2 - x) y) (pk_le 2 (2 - x + y) (fun h2 => ?_) (fun h2 => ?_)))))
  · exact tv_pv hp y (by unfold tv_imp; (repeat' split) <;> omega)
  · exact tv_pv hp 2 (by unfold tv_imp; (repeat' split) <;> omega)
  · exact tv_pv hp y (by unfold tv_imp; (repeat' split) <;> omega)
  · exact tv_pv hp (2 - x) (by unfold tv_imp; (repeat' split) <;> omega)
  · exact tv_pv hp 2 (by unfold tv_imp; (repeat' split) <;> omega)
  · exact tv_pv hp (2 - x + y) (by unfold tv_imp; (repeat' split) <;> omega)
theorem tv_py {post : Int32 → Prop} {l x y : Nat} (hl : l < 3) (hx : x < 3) (hy : y < 3) (S T K : Nat → Int32) (hp : post (nI (tv_imp l x y))) : wpY_implies post (nI l, S, T, K) (nI x) (nI y) := by
  have e2 : 2 - nI x = nI (2 - x) := pk_sub (a := 2) (by omega)
  have e3 : 2 - nI x + nI y = nI (2 - x + y) := by rw [e2, nI_add]
  refine pk_eq l 0 (fun h => pk_le 2 (2 - x + y) (fun h' => ?_) (fun h' => ?_) rfl e3) (fun h => pk_eq l 1 (fun h1 => pk_le (2 - x) y (fun h2 => ?_) (fun h2 => ?_) e2) (fun h1 => pk_lt y x (fun h2 => ?_) (fun h2 => ?_)))
  · exact tv_pv hp 2 (by unfold tv_imp; (repeat' split) <;> omega)
  · exact tv_pv hp (2 - x + y) (by unfold tv_imp; (repeat' split) <;> omega) e3
  · exact tv_pv hp y (by unfold tv_imp; (repeat' split) <;> omega)
  · exact tv_pv hp (2 - x) (by unfold tv_imp; (repeat' split) <;> omega) e2
  · exact tv_pv hp y (by unfold tv_imp; (repeat' split) <;> omega)
  · exact tv_pv hp 2 (by unfold tv_imp; (repeat' split) <;> omega)
theorem tv_ax0 {post : Int32 → Prop} {l e x : Nat} (hl : l < 3) (hx : x < 3) (he : e < 2 ^ 20) (T C : Nat → Int32) (hp : post (nI (e * 4 + tv_neg l x))) : wpX_applied post (nI l, T, C) (nI 0) (nI (e * 4 + x)) := by
  have hb := tv_neg_lt (l := l) hx
  refine nm_r (tv_and (by omega) (by omega)) (nm_r (tv_shr (by omega) (by omega)) (pk_eq 0 0 (fun _ => ?_) (fun h => absurd rfl h)))
  refine tv_nx hl hx T C ?_
  rw [tv_or (by omega) (by omega)]
  exact hp
theorem tv_ax {post : Int32 → Prop} {l k e x y : Nat} (hl : l < 3) (hk1 : 1 ≤ k) (hk4 : k < 4) (hx : x < 3) (hy : y < 3) (he : e < 2 ^ 20) (T C : Nat → Int32) (hp : post (nI (e * 4 + tv_bin l k x y))) : wpX_applied post (nI l, T, C) (nI k) (nI ((e * 4 + y) * 4 + x)) := by
  have hi := tv_imp_lt (l := l) hx hy
  have ez : ∀ z, z < 4 → z = tv_bin l k x y → post ((nI e <<< ((2 : Int32) &&& 31)) ||| nI z) := by
    intro z hz h
    rw [tv_or (by omega) hz, h]
    exact hp
  refine nm_r (tv_and (by omega) (by omega)) (nm_r (tv_shr (by omega) (by omega)) (pk_eq k 0 (fun h => absurd h (by omega)) (fun _ => nm_r (tv_and (by omega) (by omega)) (nm_r (tv_shr (by omega) (by omega)) (pk_eq k 1 (fun h1 => pk_le y x (fun h2 => ez y (by omega) ?_) (fun h2 => ez x (by omega) ?_)) (fun h1 => pk_eq k 2 (fun h2 => pk_le x y (fun h3 => ez y (by omega) ?_) (fun h3 => ez x (by omega) ?_)) (fun h2 => tv_px hl hx hy T C (ez _ (by omega) ?_))))))))
  all_goals (unfold tv_bin; (repeat' split) <;> omega)
/-! the walk of a formula from its last token -/
theorem tv_xx (w m : Nat) : nI w * 9 + nI m = nI (9 * w + m) := by
  rw [show nI w * 9 = nI (w * 9) from pk_mul w 9, nI_add, Nat.mul_comm]
theorem tv_xy (w m : Nat) : 9 * nI w + nI m = nI (9 * w + m) := by
  rw [show 9 * nI w = nI (9 * w) from pk_mul 9 w, nI_add]
theorem tv_neg0 : nI 0 - 1 < 0 := by decide +kernel
theorem tv_jx {post : Int32 → Prop} {l w a : Nat} {t c : Nat → Nat} (hl : l < 3) (hw : w < 2) (ha : a < 81) (hG : tv_G t c) : ∀ (m : Nat) (s : List Nat) (n : Nat), m < n → m ≤ c w → tv_o3 s → s.length = tv_pd (tv_g t w) m → s.length + m ≤ 9 → post (nI ((tv_run l a (tv_g t w) m s).headD 0)) → wX_judge_12 post (nI w) (nI a) (nI l) (tv_T t) (tv_T c) n (nI (tv_enc s)) (nI m - 1) := by
  intro m
  induction m with
  | zero =>
    intro s n hn hm h3 hs h9 hp
    obtain ⟨n, rfl⟩ : ∃ q, n = q + 1 := ⟨n - 1, by omega⟩
    match s, hs with
    | [x], _ =>
      have hx : x < 3 := h3.1
      refine br_t tv_neg0 ?_
      have e : nI (tv_enc [x]) &&& 3 = nI x := tv_and (e := 0) (by decide) (by omega)
      rw [e]
      exact hp
  | succ m ih =>
    intro s n hn hm h3 hs h9 hp
    obtain ⟨n, rfl⟩ : ∃ q, n = q + 1 := ⟨n - 1, by omega⟩
    obtain ⟨h9c, hpos⟩ := hG.2 w hw
    have hpm := hpos m (by omega)
    have hk8 : tv_g t w m < 8 := hG.1 _
    have e : tv_T t (nI w * 9 + nI m).toNatClampNeg = nI (tv_g t w m) := by
      rw [tv_xx, tv_Tc _ (by omega)]
      rfl
    have hE := tv_enc9 h3 (by omega)
    have hr : tv_run l a (tv_g t w) (m + 1) s = tv_run l a (tv_g t w) m (tv_step l a (tv_g t w m) s) := rfl
    rw [hr] at hp
    have hd : tv_pd (tv_g t w) (m + 1) = if 4 ≤ tv_g t w m then tv_pd (tv_g t w) m - 1 else if tv_g t w m = 0 then tv_pd (tv_g t w) m else tv_pd (tv_g t w) m + 1 := rfl
    rw [hd] at hs
    generalize tv_g t w m = k at *
    rw [nI_pred]
    refine br_f (nI_pos (by omega)) ⟨by rw [tv_xx]; exact vp_in_nI (by omega) (by omega), nm_r e (pk_lt k 4 (fun h4 => ?_) (fun h4 => ?_))⟩
    · by_cases h0 : k = 0
      · subst h0
        match s, hs with
        | x :: s, hs =>
          have hs' : s.length + 1 = tv_pd (tv_g t w) m := hs
          have hE' : tv_enc s * 4 + x < 2 ^ 18 := hE
          refine tv_ax0 (e := tv_enc s) hl h3.1 (by omega) _ _ ?_
          exact nm_r (tv_m1 m) (ih (tv_neg l x :: s) n (by omega) (by omega) ⟨tv_neg_lt h3.1, h3.2⟩ hs (by simp only [List.length_cons] at *; omega) hp)
        | [], hs =>
          simp at hs
          omega
      · rw [if_neg (by omega), if_neg h0] at hs
        match s, hs with
        | x :: y :: s, hs =>
          have hs' : s.length + 1 + 1 = tv_pd (tv_g t w) m + 1 := hs
          have hE' : (tv_enc s * 4 + y) * 4 + x < 2 ^ 18 := hE
          refine tv_ax (e := tv_enc s) hl (by omega) h4 h3.1 h3.2.1 (by omega) _ _ ?_
          refine nm_r (tv_m1 m) (ih (tv_bin l k x y :: s) n (by omega) (by omega) ⟨tv_bin_lt h3.1 h3.2.1, h3.2.2⟩ (by simp only [List.length_cons]; omega) (by simp only [List.length_cons] at *; omega) ?_)
          have ev : tv_step l a k (x :: y :: s) = tv_bin l k x y :: s := by
            unfold tv_step
            rw [if_neg (by omega), if_neg h0]
            rfl
          rw [ev] at hp
          exact hp
        | [x], hs =>
          simp at hs
          omega
        | [], hs =>
          simp at hs
    · rw [if_pos h4] at hs
      rw [show nI k - 4 = nI (k - 4) from pk_sub (b := 4) h4]
      refine tv_lx (by omega) ha _ _ _ ?_
      refine nm_r (tv_or (by omega) (by have := tv_let_lt (k - 4) a; omega)) (nm_r (tv_m1 m) (ih (tv_let (k - 4) a :: s) n (by omega) (by omega) ⟨tv_let_lt _ _, h3⟩ (by simp only [List.length_cons]; omega) (by simp only [List.length_cons]; omega) ?_))
      have ev : tv_step l a k s = tv_let (k - 4) a :: s := by
        unfold tv_step
        rw [if_pos h4]
      rw [ev] at hp
      exact hp
theorem tv_leaf {J : Int32 → Int32 → (Nat → Int32) → (Nat → Int32) → (Nat → Int32) → Prop} {q m z b : Nat} {S T K : Nat → Int32} (hq : q < 9) (hz : z = b) (hJ : J (nI (q + 1)) (nI m - 1) S T (upd K q (nI b))) : vp_in (nI (q + 1) - 1) 10 ∧ ∀ st : Nat → Int32, st = upd K (nI (q + 1) - 1).toNatClampNeg (nI z) → ∀ x4 : Int32, x4 = nI m + (-1) → J (nI (q + 1)) x4 S T st := by
  subst hz
  rw [nI_pred, nI_clamp (by omega), tv_m1]
  exact ⟨vp_in_nI (by omega) (by omega), nm_e (nm_e hJ)⟩
theorem tv_e91 {post : Int32 → SY → Prop} {J : Int32 → Int32 → (Nat → Int32) → (Nat → Int32) → (Nat → Int32) → Prop} {X1 X2 : Int32} {l k x y q m : Nat} {S T K : Nat → Int32} (hl : l < 3) (hk1 : 1 ≤ k) (hk4 : k < 4) (hx : x < 3) (hy : y < 3) (hq : q < 8) (ex : K (q + 1) = nI x) (ey : K q = nI y) (hJ : J (nI (q + 1)) (nI m - 1) S T (upd K q (nI (tv_bin l k x y)))) : wY_eval_91 post J X1 X2 (nI (q + 2)) (nI m) (nI k) (nI l) S T K := by
  have e1 : nI (q + 2) - 1 = nI (q + 1) := nI_pred (q + 1)
  have e2 : nI (q + 2) - 2 = nI q := pk_sub (a := q + 2) (b := 2) (by omega)
  have e3 : nI (q + 2) + (-1) = nI (q + 1) := pk_m1 (q + 1)
  have f1 : K (nI (q + 2) - 1).toNatClampNeg = nI x := by rw [e1, nI_clamp (by omega), ex]
  have f2 : K (nI (q + 2) - 2).toNatClampNeg = nI y := by rw [e2, nI_clamp (by omega), ey]
  have i1 : vp_in (nI (q + 2) - 1) 10 := by rw [e1]; exact vp_in_nI (by omega) (by omega)
  have i2 : vp_in (nI (q + 2) - 2) 10 := by rw [e2]; exact vp_in_nI (by omega) (by omega)
  refine pk_lt (q + 2) 2 (fun h => absurd h (by omega)) (fun _ => ⟨i1, nm_r f1 ⟨i2, nm_r f2 (nm_r e3 (pk_eq k 1 (fun h1 => pk_le y x (fun h2 => tv_leaf (by omega) ?_ hJ) (fun h2 => tv_leaf (by omega) ?_ hJ)) (fun h1 => pk_eq k 2 (fun h2 => pk_le x y (fun h3 => tv_leaf (by omega) ?_ hJ) (fun h3 => tv_leaf (by omega) ?_ hJ)) (fun h2 => tv_py hl hx hy S T K (tv_leaf (by omega) ?_ hJ)))))⟩⟩)
  all_goals (unfold tv_bin; (repeat' split) <;> omega)
theorem tv_ey {post : Int32 → SY → Prop} {l w a : Nat} {t c : Nat → Nat} (hl : l < 3) (hw : w < 2) (ha : a < 81) (hG : tv_G t c) : ∀ (m : Nat) (s : List Nat) (n : Nat) (K : Nat → Int32), m < n → m ≤ c w → tv_o3 s → tv_rp K s → s.length = tv_pd (tv_g t w) m → s.length + m ≤ 9 → (∀ K' : Nat → Int32, post (nI ((tv_run l a (tv_g t w) m s).headD 0)) (nI l, tv_T c, tv_T t, K')) → wY_eval_12 post (nI w) (nI a) (nI l) n (nI s.length) (nI m - 1) (tv_T c) (tv_T t) K := by
  intro m
  induction m with
  | zero =>
    intro s n K hn hm h3 hK hs h9 hp
    obtain ⟨n, rfl⟩ : ∃ q, n = q + 1 := ⟨n - 1, by omega⟩
    match s, hs with
    | [x], _ =>
      have e : K 0 = nI x := hK.1
      refine br_t tv_neg0 ?_
      rw [e]
      exact hp K
  | succ m ih =>
    intro s n K hn hm h3 hK hs h9 hp
    obtain ⟨n, rfl⟩ : ∃ q, n = q + 1 := ⟨n - 1, by omega⟩
    obtain ⟨h9c, hpos⟩ := hG.2 w hw
    have hpm := hpos m (by omega)
    have hk8 : tv_g t w m < 8 := hG.1 _
    have e : tv_T t (9 * nI w + nI m).toNatClampNeg = nI (tv_g t w m) := by
      rw [tv_xy, tv_Tc _ (by omega)]
      rfl
    have hr : tv_run l a (tv_g t w) (m + 1) s = tv_run l a (tv_g t w) m (tv_step l a (tv_g t w m) s) := rfl
    rw [hr] at hp
    have hd : tv_pd (tv_g t w) (m + 1) = if 4 ≤ tv_g t w m then tv_pd (tv_g t w) m - 1 else if tv_g t w m = 0 then tv_pd (tv_g t w) m else tv_pd (tv_g t w) m + 1 := rfl
    rw [hd] at hs
    generalize tv_g t w m = k at *
    rw [nI_pred]
    refine br_f (nI_pos (by omega)) ⟨by rw [tv_xy]; exact vp_in_nI (by omega) (by omega), nm_r e (pk_lt k 4 (fun h4 => ?_) (fun h4 => ?_))⟩
    · by_cases h0 : k = 0
      · subst h0
        match s, hs with
        | x :: s, hs =>
          have hs' : s.length + 1 = tv_pd (tv_g t w) m := hs
          have h9' : s.length + 1 + (m + 1) ≤ 9 := h9
          have hx : x < 3 := h3.1
          have e1 : nI (x :: s).length - 1 = nI s.length := nI_pred _
          refine pk_eq 0 0 (fun _ => pk_lt (s.length + 1) 1 (fun h => absurd h (by omega)) (fun _ => ?_)) (fun h => absurd rfl h)
          rw [e1, nI_clamp (by omega), hK.1]
          refine ⟨vp_in_nI (by omega) (by omega), tv_ny hl hx _ _ _ ⟨vp_in_nI (by omega) (by omega), nm_e (nm_r (tv_m1 m) (ih (tv_neg l x :: s) n _ (by omega) (by omega) ⟨tv_neg_lt hx, h3.2⟩ ⟨pk_us, tv_rpU s hK.2 (by omega)⟩ hs (by simp only [List.length_cons]; omega) hp))⟩⟩
        | [], hs =>
          simp at hs
          omega
      · rw [if_neg (by omega), if_neg h0] at hs
        match s, hs with
        | x :: y :: s, hs =>
          have hs' : s.length + 1 + 1 = tv_pd (tv_g t w) m + 1 := hs
          have h9' : s.length + 1 + 1 + (m + 1) ≤ 9 := h9
          refine pk_eq k 0 (fun h => absurd h h0) (fun _ => ?_)
          refine tv_e91 (q := s.length) hl (by omega) h4 h3.1 h3.2.1 (by omega) hK.1 hK.2.1 ?_
          refine ih (tv_bin l k x y :: s) n _ (by omega) (by omega) ⟨tv_bin_lt h3.1 h3.2.1, h3.2.2⟩ ⟨pk_us, tv_rpU s hK.2.2 (by omega)⟩ (by simp only [List.length_cons]; omega) (by simp only [List.length_cons]; omega) ?_
          have ev : tv_step l a k (x :: y :: s) = tv_bin l k x y :: s := by
            unfold tv_step
            rw [if_neg (by omega), if_neg h0]
            rfl
          rw [ev] at hp
          exact hp
        | [x], hs =>
          simp at hs
          omega
        | [], hs =>
          simp at hs
    · rw [if_pos h4] at hs
      rw [show nI k - 4 = nI (k - 4) from pk_sub (b := 4) h4]
      refine tv_ly (by omega) ha _ _ _ _ ?_
      rw [nI_clamp (by omega)]
      refine ⟨vp_in_nI (by omega) (by omega), nm_e (nm_r (nI_1 _) (nm_r (tv_m1 m) (ih (tv_let (k - 4) a :: s) n _ (by omega) (by omega) ⟨tv_let_lt _ _, h3⟩ ⟨pk_us, tv_rpU s hK (by omega)⟩ (by simp only [List.length_cons]; omega) (by simp only [List.length_cons]; omega) ?_)))⟩
      have ev : tv_step l a k s = tv_let (k - 4) a :: s := by
        unfold tv_step
        rw [if_pos h4]
      rw [ev] at hp
      exact hp
/-- formula w is complete -/
def tv_C (t c : Nat → Nat) (w : Nat) : Prop := tv_pd (tv_g t w) (c w) = 0
theorem tv_J {post : Int32 → Prop} {l w a : Nat} {t c : Nat → Nat} (hl : l < 3) (hw : w < 2) (ha : a < 81) (hG : tv_G t c) (hc : tv_C t c w) (hp : post (nI (tv_val l t c w a))) : wpX_judge post (nI l, tv_T t, tv_T c) (nI w) (nI a) := by
  obtain ⟨h9c, _⟩ := hG.2 w hw
  refine ⟨vp_in_nI hw (by omega), nm_r (by rw [tv_Tc _ (by omega)]) ⟨c w + 1, tv_jx hl hw ha hG (c w) [] (c w + 1) (by omega) (by omega) trivial hc.symm (by simp only [List.length_nil]; omega) hp⟩⟩
theorem tv_E {post : Int32 → SY → Prop} {l w a : Nat} {t c : Nat → Nat} (K : Nat → Int32) (hl : l < 3) (hw : w < 2) (ha : a < 81) (hG : tv_G t c) (hc : tv_C t c w) (hp : ∀ K' : Nat → Int32, post (nI (tv_val l t c w a)) (nI l, tv_T c, tv_T t, K')) : wpY_eval post (nI l, tv_T c, tv_T t, K) (nI w) (nI a) := by
  obtain ⟨h9c, _⟩ := hG.2 w hw
  refine ⟨vp_in_nI hw (by omega), nm_r (by rw [tv_Tc _ (by omega)]) ⟨c w + 1, tv_ey hl hw ha hG (c w) [] (c w + 1) K (by omega) (by omega) trivial trivial hc.symm (by simp only [List.length_nil]; omega) hp⟩⟩
end
section
/-! whether a formula is complete, on both sides -/
theorem tv_mx {post : Int32 → Prop} {w : Nat} {t c : Nat → Nat} (L : Int32) (hw : w < 2) (hG : tv_G t c) (hp : post (nI (tv_pd (tv_g t w) (c w)))) : ∀ d m n : Nat, m + d = c w → d < n → wX_missingFormulas_4 post (nI w) L (tv_T t) (tv_T c) n (nI (tv_pd (tv_g t w) m)) (nI m) := by
  obtain ⟨h9c, hpos⟩ := hG.2 w hw
  have ec := tv_Tc c (w := w) (by omega)
  intro d
  induction d with
  | zero =>
    intro m n hm hn
    obtain ⟨n, rfl⟩ : ∃ q, n = q + 1 := ⟨n - 1, by omega⟩
    obtain rfl : m = c w := by omega
    exact ⟨vp_in_nI hw (by omega), pk_le (c w) (c w) (fun _ => hp) (fun h => absurd h (by omega)) ec⟩
  | succ d ih =>
    intro m n hm hn
    obtain ⟨n, rfl⟩ : ∃ q, n = q + 1 := ⟨n - 1, by omega⟩
    have hpm := hpos m (by omega)
    have hk8 : tv_g t w m < 8 := hG.1 _
    have hh := ih (m + 1) n (by omega) (by omega)
    have hd : tv_pd (tv_g t w) (m + 1) = if 4 ≤ tv_g t w m then tv_pd (tv_g t w) m - 1 else if tv_g t w m = 0 then tv_pd (tv_g t w) m else tv_pd (tv_g t w) m + 1 := rfl
    rw [hd] at hh
    have e : tv_T t (nI w * 9 + nI m).toNatClampNeg = nI (tv_g t w m) := by
      rw [tv_xx, tv_Tc _ (by omega)]
      rfl
    have ei : vp_in (nI w * 9 + nI m) 18 := by
      rw [tv_xx]
      exact vp_in_nI (by omega) (by omega)
    refine ⟨vp_in_nI hw (by omega), pk_le (c w) m (fun h => absurd h (by omega)) (fun _ => ⟨ei, nm_r e (pk_lt (tv_g t w m) 4 (fun h4 => pk_eq (tv_g t w m) 0 (fun h0 => ?_) (fun h0 => ?_)) (fun h4 => ?_))⟩) ec⟩
    · rw [if_neg (by omega), if_pos h0] at hh
      exact nm_r (nI_1 m) hh
    · rw [if_neg (by omega), if_neg h0] at hh
      exact nm_r (nI_1 _) (nm_r (nI_1 m) hh)
    · rw [if_pos h4] at hh
      have ep : nI (tv_pd (tv_g t w) m) + (-1) = nI (tv_pd (tv_g t w) m - 1) := by
        obtain ⟨q, hq⟩ : ∃ q, tv_pd (tv_g t w) m = q + 1 := ⟨tv_pd (tv_g t w) m - 1, by omega⟩
        rw [hq]
        exact pk_m1 q
      exact nm_r ep (nm_r (nI_1 m) hh)
theorem tv_my {post : Int32 → Prop} {w : Nat} {t c : Nat → Nat} (L : Int32) (K : Nat → Int32) (hw : w < 2) (hG : tv_G t c) (hp1 : tv_C t c w → post 1) (hp0 : ¬ tv_C t c w → post 0) : ∀ d m n : Nat, m + d = c w → d < n → wY_complete_15 post (nI w) L (tv_T c) (tv_T t) K n (nI (tv_pd (tv_g t w) m)) (nI m) := by
  obtain ⟨h9c, hpos⟩ := hG.2 w hw
  have ec := tv_Tc c (w := w) (by omega)
  have hle := tv_pd_le (tv_g t w) (c w)
  intro d
  induction d with
  | zero =>
    intro m n hm hn
    obtain ⟨n, rfl⟩ : ∃ q, n = q + 1 := ⟨n - 1, by omega⟩
    obtain rfl : m = c w := by omega
    exact ⟨vp_in_nI hw (by omega), pk_le (c w) (c w) (fun _ => pk_eq (tv_pd (tv_g t w) (c w)) 0 hp1 hp0) (fun h => absurd h (by omega)) ec⟩
  | succ d ih =>
    intro m n hm hn
    obtain ⟨n, rfl⟩ : ∃ q, n = q + 1 := ⟨n - 1, by omega⟩
    have hpm := hpos m (by omega)
    have hk8 : tv_g t w m < 8 := hG.1 _
    have hh := ih (m + 1) n (by omega) (by omega)
    have hd : tv_pd (tv_g t w) (m + 1) = if 4 ≤ tv_g t w m then tv_pd (tv_g t w) m - 1 else if tv_g t w m = 0 then tv_pd (tv_g t w) m else tv_pd (tv_g t w) m + 1 := rfl
    rw [hd] at hh
    have e : tv_T t (9 * nI w + nI m).toNatClampNeg = nI (tv_g t w m) := by
      rw [tv_xy, tv_Tc _ (by omega)]
      rfl
    have ei : vp_in (9 * nI w + nI m) 18 := by
      rw [tv_xy]
      exact vp_in_nI (by omega) (by omega)
    refine ⟨vp_in_nI hw (by omega), pk_le (c w) m (fun h => absurd h (by omega)) (fun _ => ⟨ei, nm_r e (pk_eq (tv_g t w m) 0 (fun h0 => ?_) (fun h0 => pk_lt 3 (tv_g t w m) (fun h4 => ?_) (fun h4 => ?_)))⟩) ec⟩
    · rw [if_neg (by omega), if_pos h0] at hh
      exact nm_r (nI_1 m) hh
    · rw [if_pos (show 4 ≤ tv_g t w m from h4)] at hh
      have ep : nI (tv_pd (tv_g t w) m) - 1 = nI (tv_pd (tv_g t w) m - 1) := pk_sub (b := 1) hpm
      exact nm_r ep (nm_r (nI_1 m) hh)
    · rw [if_neg (by omega), if_neg h0] at hh
      exact nm_r (nI_1 _) (nm_r (nI_1 m) hh)
/-- p names no complete formula -/
def tv_F (t c : Nat → Nat) (p : Int32) : Prop := ∀ w, w < 2 → p = nI w → ¬ tv_C t c w
theorem tv_w (p : Int32) : (¬ p = 0 ∧ ¬ p = 1) ∨ ∃ w, w < 2 ∧ p = nI w := by
  by_cases h0 : p = 0
  · exact Or.inr ⟨0, by decide, h0⟩
  · by_cases h1 : p = 1
    · exact Or.inr ⟨1, by decide, h1⟩
    · exact Or.inl ⟨h0, h1⟩
theorem tv_cs (t c : Nat → Nat) (p : Int32) : tv_F t c p ∨ ∃ w, w < 2 ∧ p = nI w ∧ tv_C t c w := by
  rcases tv_w p with h | ⟨w, hw, rfl⟩
  · refine Or.inl fun w hw e => ?_
    have : w = 0 ∨ w = 1 := by omega
    rcases this with rfl | rfl
    · exact absurd e h.1
    · exact absurd e h.2
  · by_cases hc : tv_pd (tv_g t w) (c w) = 0
    · exact Or.inr ⟨w, hw, rfl, hc⟩
    · refine Or.inl fun w' hw' e => ?_
      have : w = w' := (nI_eq (by omega) (by omega)).mp e
      subst this
      exact hc
theorem tv_if1 {post : Int32 → Prop} {w : Nat} (hw : w < 2) (u : SX) (hp : post 1) : wpX_isFormula post u (nI w) := by
  obtain ⟨L, T, C⟩ := u
  exact pk_eq w 0 (fun _ => hp) (fun h => pk_eq w 1 (fun _ => hp) (fun h' => absurd hw (by omega)))
theorem tv_if0 {post : Int32 → Prop} {p : Int32} (h0 : ¬ p = 0) (h1 : ¬ p = 1) (u : SX) (hp : post 0) : wpX_isFormula post u p := by
  obtain ⟨L, T, C⟩ := u
  exact br_f h0 (br_f h1 hp)
theorem tv_cx {post : Int32 → Prop} {w : Nat} {t c : Nat → Nat} (L : Int32) (hw : w < 2) (hG : tv_G t c) (hp1 : tv_C t c w → post 1) (hp0 : ¬ tv_C t c w → post 0) : wpX_complete post (L, tv_T t, tv_T c) (nI w) := by
  obtain ⟨h9c, hpos⟩ := hG.2 w hw
  have hle := tv_pd_le (tv_g t w) (c w)
  unfold wpX_complete
  dsimp only
  refine tv_if1 hw _ (br_f (by decide) ?_)
  exact ⟨c w + 1, tv_mx L hw hG (pk_eq (tv_pd (tv_g t w) (c w)) 0 hp1 hp0) (c w) 0 (c w + 1) (by omega) (by omega)⟩
theorem tv_cx1 {post : Int32 → Prop} {w : Nat} {t c : Nat → Nat} (L : Int32) (hw : w < 2) (hG : tv_G t c) (hc : tv_C t c w) (hp : post 1) : wpX_complete post (L, tv_T t, tv_T c) (nI w) := tv_cx L hw hG (fun _ => hp) (fun h => absurd hc h)
theorem tv_cxF {post : Int32 → Prop} {p : Int32} {t c : Nat → Nat} (L : Int32) (hG : tv_G t c) (hF : tv_F t c p) (hp : post 0) : wpX_complete post (L, tv_T t, tv_T c) p := by
  rcases tv_w p with h | ⟨w, hw, rfl⟩
  · unfold wpX_complete
    dsimp only
    exact tv_if0 h.1 h.2 _ (br_t rfl hp)
  · exact tv_cx L hw hG (fun hc => absurd hc (hF w hw rfl)) (fun _ => hp)
theorem tv_cy {post : Int32 → Prop} {w : Nat} {t c : Nat → Nat} (L : Int32) (K : Nat → Int32) (hw : w < 2) (hG : tv_G t c) (hp1 : tv_C t c w → post 1) (hp0 : ¬ tv_C t c w → post 0) : wpY_complete post (L, tv_T c, tv_T t, K) (nI w) := by
  have H : ∃ n15 : Nat, wY_complete_15 post (nI w) L (tv_T c) (tv_T t) K n15 1 0 := ⟨c w + 1, tv_my L K hw hG hp1 hp0 (c w) 0 (c w + 1) (by omega) (by omega)⟩
  exact pk_eq w 0 (fun _ => H) (fun h => pk_eq w 1 (fun _ => H) (fun h' => absurd hw (by omega)))
theorem tv_cy1 {post : Int32 → Prop} {w : Nat} {t c : Nat → Nat} (L : Int32) (K : Nat → Int32) (hw : w < 2) (hG : tv_G t c) (hc : tv_C t c w) (hp : post 1) : wpY_complete post (L, tv_T c, tv_T t, K) (nI w) := tv_cy L K hw hG (fun _ => hp) (fun h => absurd hc h)
theorem tv_cyF {post : Int32 → Prop} {p : Int32} {t c : Nat → Nat} (L : Int32) (K : Nat → Int32) (hG : tv_G t c) (hF : tv_F t c p) (hp : post 0) : wpY_complete post (L, tv_T c, tv_T t, K) p := by
  rcases tv_w p with h | ⟨w, hw, rfl⟩
  · exact br_f h.1 (br_f h.2 hp)
  · exact tv_cy L K hw hG (fun hc => absurd hc (hF w hw rfl)) (fun _ => hp)
theorem tv_it1 {post : Int32 → Prop} {j : Nat} (hj : j < 3) (u : SX) (hp : post 1) : wpX_isTruthValue post u (nI j) := by
  obtain ⟨L, T, C⟩ := u
  exact br_f (nI_pos (by omega)) (pk_le 3 j (fun h => absurd hj (by omega)) (fun _ => hp))
theorem tv_it0 {post : Int32 → Prop} {p : Int32} (h : p < 0 ∨ 3 ≤ p) (u : SX) (hp : post 0) : wpX_isTruthValue post u p := by
  obtain ⟨L, T, C⟩ := u
  refine br_c (fun _ => hp) (fun h0 => ?_)
  rcases h with h | h
  · exact absurd h h0
  · exact br_t h hp
theorem tv_q3 (q : Int32) : (q < 0 ∨ 3 ≤ q) ∨ ∃ j, j < 3 ∧ q = nI j := by
  rcases pk_ix q (n := 3) (by decide) with h | h | h
  · exact Or.inl (Or.inl h)
  · exact Or.inl (Or.inr h)
  · exact Or.inr h
theorem tv_nv {q : Int32} (h : q < 0 ∨ 3 ≤ q) {v : Nat} (hv : v < 3) : ¬ nI v = q := by
  intro e
  subst e
  rcases h with h | h
  · exact absurd h (nI_pos (by omega))
  · exact absurd h (nI_ge (b := 3) hv (by decide))
/-! the walks over the assignments: one answer for both sides -/
theorem tv_81 {j d : Nat} (h : j + (d + 1) = 81) : ¬ (81 : Int32) ≤ nI j := nI_ge (b := 81) (by omega) (by decide)
theorem tv_80 {j d : Nat} (h : j + (d + 1) = 81) : ¬ (80 : Int32) < nI j := nI_nlt (a := 80) (by omega) (by decide)
theorem tv_81e {j : Nat} (h : j + 0 = 81) : (81 : Int32) ≤ nI j := nI_le (a := 81) (by omega) (by omega)
theorem tv_80e {j : Nat} (h : j + 0 = 81) : (80 : Int32) < nI j := nI_lt (a := 80) (by omega) (by omega)
theorem tv_80n : ¬ (80 : Int32) < 0 := by decide
theorem tv_n10 : ¬ (1 : Int32) = 0 := by decide
section
variable {l : Nat} {t c : Nat → Nat}
theorem tv_find_s {w : Nat} (hl : l < 3) (hG : tv_G t c) (hw : w < 2) (hc : tv_C t c w) (q : Int32) : ∀ d j : Nat, j + d = 81 → ∃ r : Int32, (∀ post : Int32 → Prop, post r → wX_find_20 post (nI w) q (nI l) (tv_T t) (tv_T c) (d + 1) (nI j)) ∧ (∀ (K : Nat → Int32) (post : Int32 → SY → Prop), (∀ K' : Nat → Int32, post r (nI l, tv_T c, tv_T t, K')) → wY_find_2 post (nI w) q (d + 1) (nI j) (nI l) (tv_T c) (tv_T t) K) ∧ ((∀ a, ¬ nI (tv_val l t c w a) = q) → r = -1) := by
  intro d
  induction d with
  | zero =>
    intro j hj
    exact ⟨-1, fun post hp => br_t (tv_81e hj) hp, fun K post hp => br_t (tv_80e hj) (hp K), fun _ => rfl⟩
  | succ d ih =>
    intro j hj
    by_cases z : nI (tv_val l t c w j) = q
    · refine ⟨nI j, fun post hp => br_f (tv_81 hj) (tv_J hl hw (by omega) hG hc (br_t z hp)), fun K post hp => br_f (tv_80 hj) (tv_cy1 _ K hw hG hc (br_f tv_n10 (tv_E K hl hw (by omega) hG hc (fun K' => br_t z (hp K'))))), fun h => absurd z (h j)⟩
    · obtain ⟨r, hX, hY, hN⟩ := ih (j + 1) (by omega)
      exact ⟨r, fun post hp => br_f (tv_81 hj) (tv_J hl hw (by omega) hG hc (br_f z (nm_r (nI_1 j) (hX post hp)))), fun K post hp => br_f (tv_80 hj) (tv_cy1 _ K hw hG hc (br_f tv_n10 (tv_E K hl hw (by omega) hG hc (fun K' => br_f z (nm_r (nI_1 j) (hY K' post hp)))))), hN⟩
theorem tv_values_s {w : Nat} (hl : l < 3) (hG : tv_G t c) (hw : w < 2) (hc : tv_C t c w) : ∀ (d j : Nat) (x : Int32), j + d = 81 → ∃ r : Int32, (∀ post : Int32 → Prop, post r → wX_values_14 post (nI w) (nI l) (tv_T t) (tv_T c) (d + 1) x (nI j)) ∧ (∀ (K : Nat → Int32) (post : Int32 → SY → Prop), (∀ K' : Nat → Int32, post r (nI l, tv_T c, tv_T t, K')) → wY_values_4 post (nI w) (d + 1) x (nI j) (nI l) (tv_T c) (tv_T t) K) := by
  intro d
  induction d with
  | zero =>
    intro j x hj
    exact ⟨x, fun post hp => br_t (tv_81e hj) hp, fun K post hp => br_t (tv_80e hj) (hp K)⟩
  | succ d ih =>
    intro j x hj
    obtain ⟨r, hX, hY⟩ := ih (j + 1) (x ||| ((1 : Int32) <<< (nI (tv_val l t c w j) &&& 31))) (by omega)
    exact ⟨r, fun post hp => br_f (tv_81 hj) (tv_J hl hw (by omega) hG hc (nm_e (nm_r (nI_1 j) (hX post hp)))), fun K post hp => br_f (tv_80 hj) (tv_cy1 _ K hw hG hc (br_f tv_n10 (tv_E K hl hw (by omega) hG hc (fun K' => nm_e (nm_r (nI_1 j) (hY K' post hp))))))⟩
theorem tv_both_s (hl : l < 3) (hG : tv_G t c) (h0 : tv_C t c 0) (h1 : tv_C t c 1) (p q : Int32) : ∀ d j : Nat, j + d = 81 → ∃ r : Int32, (∀ post : Int32 → Prop, post r → wX_findBoth_27 post p q (nI l) (tv_T t) (tv_T c) (d + 1) (nI j)) ∧ (∀ (K : Nat → Int32) (post : Int32 → SY → Prop), (∀ K' : Nat → Int32, post r (nI l, tv_T c, tv_T t, K')) → wY_findBoth_2 post p q (d + 1) (nI j) (nI l) (tv_T c) (tv_T t) K) ∧ ((∀ a, ¬ (nI (tv_val l t c 0 a) = p ∧ nI (tv_val l t c 1 a) = q)) → r = -1) := by
  intro d
  induction d with
  | zero =>
    intro j hj
    exact ⟨-1, fun post hp => br_t (tv_81e hj) hp, fun K post hp => br_t (tv_80e hj) (hp K), fun _ => rfl⟩
  | succ d ih =>
    intro j hj
    have hj' : j < 81 := by omega
    obtain ⟨r, hX, hY, hN⟩ := ih (j + 1) (by omega)
    by_cases z0 : nI (tv_val l t c 0 j) = p
    · by_cases z1 : nI (tv_val l t c 1 j) = q
      · exact ⟨nI j, fun post hp => br_f (tv_81 hj) (tv_J (w := 0) hl (by decide) hj' hG h0 (br_t z0 (tv_J (w := 1) hl (by decide) hj' hG h1 (br_t z1 hp)))), fun K post hp => br_f (tv_80 hj) (tv_cy1 (w := 0) _ K (by decide) hG h0 (br_f tv_n10 (tv_cy1 (w := 1) _ K (by decide) hG h1 (br_f tv_n10 (tv_E (w := 0) K hl (by decide) hj' hG h0 (fun K' => br_t z0 (tv_E (w := 1) K' hl (by decide) hj' hG h1 (fun K'' => br_t z1 (hp K''))))))))), fun h => absurd ⟨z0, z1⟩ (h j)⟩
      · exact ⟨r, fun post hp => br_f (tv_81 hj) (tv_J (w := 0) hl (by decide) hj' hG h0 (br_t z0 (tv_J (w := 1) hl (by decide) hj' hG h1 (br_f z1 (nm_r (nI_1 j) (hX post hp)))))), fun K post hp => br_f (tv_80 hj) (tv_cy1 (w := 0) _ K (by decide) hG h0 (br_f tv_n10 (tv_cy1 (w := 1) _ K (by decide) hG h1 (br_f tv_n10 (tv_E (w := 0) K hl (by decide) hj' hG h0 (fun K' => br_t z0 (tv_E (w := 1) K' hl (by decide) hj' hG h1 (fun K'' => br_f z1 (nm_r (nI_1 j) (hY K'' post hp)))))))))), hN⟩
    · exact ⟨r, fun post hp => br_f (tv_81 hj) (tv_J (w := 0) hl (by decide) hj' hG h0 (br_f z0 (nm_r (nI_1 j) (hX post hp)))), fun K post hp => br_f (tv_80 hj) (tv_cy1 (w := 0) _ K (by decide) hG h0 (br_f tv_n10 (tv_cy1 (w := 1) _ K (by decide) hG h1 (br_f tv_n10 (tv_E (w := 0) K hl (by decide) hj' hG h0 (fun K' => br_f z0 (nm_r (nI_1 j) (hY K' post hp)))))))), hN⟩
theorem tv_ent0 (n : Nat) (x : Int32) (v : SY) (post : Int32 → SY → Prop) (hp : post 0 v) : wY_entails_24 post (n + 1) 0 x v.1 v.2.1 v.2.2.1 v.2.2.2 :=
  br_c (fun _ => ⟨rfl, hp⟩) (fun _ => br_t rfl ⟨rfl, hp⟩)
theorem tv_bel0 (n : Nat) (x : Int32) (v : SY) (post : Int32 → SY → Prop) (hp : post 0 v) : wY_below_24 post (n + 1) 0 x v.1 v.2.1 v.2.2.1 v.2.2.2 :=
  br_c (fun _ => ⟨rfl, hp⟩) (fun _ => br_t rfl ⟨rfl, hp⟩)
theorem tv_ali0 (n : Nat) (x : Int32) (v : SY) (post : Int32 → SY → Prop) (hp : post 0 v) : wY_alike_24 post (n + 1) 0 x v.1 v.2.1 v.2.2.1 v.2.2.2 :=
  br_c (fun _ => ⟨rfl, hp⟩) (fun _ => br_t rfl ⟨rfl, hp⟩)
theorem tv_entails_s (hl : l < 3) (hG : tv_G t c) (h0 : tv_C t c 0) (h1 : tv_C t c 1) : ∀ d j : Nat, j + d = 81 → ∃ r : Int32, (∀ post : Int32 → Prop, post r → wX_entails_11 post (nI l) (tv_T t) (tv_T c) (d + 1) (nI j)) ∧ (∀ (K : Nat → Int32) (post : Int32 → SY → Prop), (∀ K' : Nat → Int32, post r (nI l, tv_T c, tv_T t, K')) → wY_entails_24 post (d + 1) 1 (nI j) (nI l) (tv_T c) (tv_T t) K) := by
  intro d
  induction d with
  | zero =>
    intro j hj
    exact ⟨1, fun post hp => br_t (tv_81e hj) hp, fun K post hp => br_t (tv_80e hj) ⟨rfl, hp K⟩⟩
  | succ d ih =>
    intro j hj
    have hj' : j < 81 := by omega
    obtain ⟨r, hX, hY⟩ := ih (j + 1) (by omega)
    by_cases z0 : nI (tv_val l t c 0 j) = 2
    · by_cases z1 : nI (tv_val l t c 1 j) = 2
      · exact ⟨r, fun post hp => br_f (tv_81 hj) (tv_J (w := 0) hl (by decide) hj' hG h0 (br_t z0 (tv_J (w := 1) hl (by decide) hj' hG h1 (br_t z1 (nm_r (nI_1 j) (hX post hp)))))), fun K post hp => br_f (tv_80 hj) (br_f tv_n10 (tv_E (w := 0) K hl (by decide) hj' hG h0 (fun K' => br_t z0 (tv_E (w := 1) K' hl (by decide) hj' hG h1 (fun K'' => br_t z1 (nm_r (nI_1 j) (hY K'' post hp)))))))⟩
      · exact ⟨0, fun post hp => br_f (tv_81 hj) (tv_J (w := 0) hl (by decide) hj' hG h0 (br_t z0 (tv_J (w := 1) hl (by decide) hj' hG h1 (br_f z1 hp)))), fun K post hp => br_f (tv_80 hj) (br_f tv_n10 (tv_E (w := 0) K hl (by decide) hj' hG h0 (fun K' => br_t z0 (tv_E (w := 1) K' hl (by decide) hj' hG h1 (fun K'' => br_f z1 (nm_e (tv_ent0 d _ (nI l, tv_T c, tv_T t, K'') post (hp K''))))))))⟩
    · exact ⟨r, fun post hp => br_f (tv_81 hj) (tv_J (w := 0) hl (by decide) hj' hG h0 (br_f z0 (nm_r (nI_1 j) (hX post hp)))), fun K post hp => br_f (tv_80 hj) (br_f tv_n10 (tv_E (w := 0) K hl (by decide) hj' hG h0 (fun K' => br_f z0 (nm_r (nI_1 j) (hY K' post hp)))))⟩
theorem tv_below_s (hl : l < 3) (hG : tv_G t c) (h0 : tv_C t c 0) (h1 : tv_C t c 1) : ∀ d j : Nat, j + d = 81 → ∃ r : Int32, (∀ post : Int32 → Prop, post r → wX_below_11 post (nI l) (tv_T t) (tv_T c) (d + 1) (nI j)) ∧ (∀ (K : Nat → Int32) (post : Int32 → SY → Prop), (∀ K' : Nat → Int32, post r (nI l, tv_T c, tv_T t, K')) → wY_below_24 post (d + 1) 1 (nI j) (nI l) (tv_T c) (tv_T t) K) := by
  intro d
  induction d with
  | zero =>
    intro j hj
    exact ⟨1, fun post hp => br_t (tv_81e hj) hp, fun K post hp => br_t (tv_80e hj) ⟨rfl, hp K⟩⟩
  | succ d ih =>
    intro j hj
    have hj' : j < 81 := by omega
    obtain ⟨r, hX, hY⟩ := ih (j + 1) (by omega)
    by_cases z : nI (tv_val l t c 0 j) ≤ nI (tv_val l t c 1 j)
    · have z' : ¬ nI (tv_val l t c 1 j) < nI (tv_val l t c 0 j) := Int32.not_lt.mpr z
      exact ⟨r, fun post hp => br_f (tv_81 hj) (tv_J (w := 0) hl (by decide) hj' hG h0 (tv_J (w := 1) hl (by decide) hj' hG h1 (br_t z (nm_r (nI_1 j) (hX post hp))))), fun K post hp => br_f (tv_80 hj) (br_f tv_n10 (tv_E (w := 0) K hl (by decide) hj' hG h0 (fun K' => tv_E (w := 1) K' hl (by decide) hj' hG h1 (fun K'' => br_f z' (nm_r (nI_1 j) (hY K'' post hp))))))⟩
    · have z' : nI (tv_val l t c 1 j) < nI (tv_val l t c 0 j) := Int32.not_le.mp z
      exact ⟨0, fun post hp => br_f (tv_81 hj) (tv_J (w := 0) hl (by decide) hj' hG h0 (tv_J (w := 1) hl (by decide) hj' hG h1 (br_f z hp))), fun K post hp => br_f (tv_80 hj) (br_f tv_n10 (tv_E (w := 0) K hl (by decide) hj' hG h0 (fun K' => tv_E (w := 1) K' hl (by decide) hj' hG h1 (fun K'' => br_t z' (nm_e (tv_bel0 d _ (nI l, tv_T c, tv_T t, K'') post (hp K'')))))))⟩
theorem tv_alike_s (hl : l < 3) (hG : tv_G t c) (h0 : tv_C t c 0) (h1 : tv_C t c 1) : ∀ d j : Nat, j + d = 81 → ∃ r : Int32, (∀ post : Int32 → Prop, post r → wX_alike_11 post (nI l) (tv_T t) (tv_T c) (d + 1) (nI j)) ∧ (∀ (K : Nat → Int32) (post : Int32 → SY → Prop), (∀ K' : Nat → Int32, post r (nI l, tv_T c, tv_T t, K')) → wY_alike_24 post (d + 1) 1 (nI j) (nI l) (tv_T c) (tv_T t) K) := by
  intro d
  induction d with
  | zero =>
    intro j hj
    exact ⟨1, fun post hp => br_t (tv_81e hj) hp, fun K post hp => br_t (tv_80e hj) ⟨rfl, hp K⟩⟩
  | succ d ih =>
    intro j hj
    have hj' : j < 81 := by omega
    obtain ⟨r, hX, hY⟩ := ih (j + 1) (by omega)
    by_cases z : nI (tv_val l t c 0 j) = nI (tv_val l t c 1 j)
    · exact ⟨r, fun post hp => br_f (tv_81 hj) (tv_J (w := 0) hl (by decide) hj' hG h0 (tv_J (w := 1) hl (by decide) hj' hG h1 (br_t z (nm_r (nI_1 j) (hX post hp))))), fun K post hp => br_f (tv_80 hj) (br_f tv_n10 (tv_E (w := 0) K hl (by decide) hj' hG h0 (fun K' => tv_E (w := 1) K' hl (by decide) hj' hG h1 (fun K'' => br_t z (nm_r (nI_1 j) (hY K'' post hp))))))⟩
    · exact ⟨0, fun post hp => br_f (tv_81 hj) (tv_J (w := 0) hl (by decide) hj' hG h0 (tv_J (w := 1) hl (by decide) hj' hG h1 (br_f z hp))), fun K post hp => br_f (tv_80 hj) (br_f tv_n10 (tv_E (w := 0) K hl (by decide) hj' hG h0 (fun K' => tv_E (w := 1) K' hl (by decide) hj' hG h1 (fun K'' => br_f z (nm_e (tv_ali0 d _ (nI l, tv_T c, tv_T t, K'') post (hp K'')))))))⟩
theorem tv_apart_s {w i : Nat} (hl : l < 3) (hG : tv_G t c) (hw : w < 2) (hc : tv_C t c w) (hi : i < 4) : ∀ d j : Nat, j + d = 81 → ∃ r : Int32, (∀ post : Int32 → Prop, post r → wX_findApart_21 post (nI w) (nI i) (nI l) (tv_T t) (tv_T c) (d + 1) (nI j)) ∧ (∀ (K : Nat → Int32) (post : Int32 → SY → Prop), (∀ K' : Nat → Int32, post r (nI l, tv_T c, tv_T t, K')) → wY_findApart_2 post (nI w) (nI i) (d + 1) (nI j) (nI l) (tv_T c) (tv_T t) K) := by
  have i0 : ¬ nI i < 0 := nI_pos (by omega)
  have i3 : ¬ 3 < nI i := nI_nlt (a := 3) (by omega) (by decide)
  intro d
  induction d with
  | zero =>
    intro j hj
    exact ⟨-1, fun post hp => br_t (tv_81e hj) hp, fun K post hp => br_t (tv_80e hj) (hp K)⟩
  | succ d ih =>
    intro j hj
    have hj' : j < 81 := by omega
    obtain ⟨r, hX, hY⟩ := ih (j + 1) (by omega)
    by_cases z : nI (tv_val l t c w j) = nI (tv_let i j)
    · exact ⟨r, fun post hp => br_f (tv_81 hj) (tv_J hl hw hj' hG hc (tv_lx hi hj' _ _ _ (br_t z (nm_r (nI_1 j) (hX post hp))))), fun K post hp => br_f (tv_80 hj) (tv_cy1 _ K hw hG hc (br_f tv_n10 (br_f i0 (br_f i3 (tv_E K hl hw hj' hG hc (fun K' => tv_ly hi hj' _ _ _ _ (br_t z (nm_r (nI_1 j) (hY K' post hp)))))))))⟩
    · exact ⟨nI j, fun post hp => br_f (tv_81 hj) (tv_J hl hw hj' hG hc (tv_lx hi hj' _ _ _ (br_f z hp))), fun K post hp => br_f (tv_80 hj) (tv_cy1 _ K hw hG hc (br_f tv_n10 (br_f i0 (br_f i3 (tv_E K hl hw hj' hG hc (fun K' => tv_ly hi hj' _ _ _ _ (br_f z (hp K'))))))))⟩
end
end
section
/-! the two states: the same logic, tokens and counts; the reference's stack is free -/
def i_Rel (_ : Nat) (u : SX) (v : SY) : Prop := ∃ (l : Nat) (t c : Nat → Nat) (K : Nat → Int32), u = (nI l, tv_T t, tv_T c) ∧ v = (nI l, tv_T c, tv_T t, K) ∧ l < 3 ∧ tv_G t c
/-- both sides of a call that only reads, one answer -/
def tv_R (X : (Int32 → Prop) → Prop) (Y : (Int32 → SY → Prop) → (Nat → Int32) → Prop) (l : Nat) (t c : Nat → Nat) : Prop := ∃ r : Int32, (∀ post : Int32 → Prop, post r → X post) ∧ (∀ (K : Nat → Int32) (post : Int32 → SY → Prop), (∀ K' : Nat → Int32, post r (nI l, tv_T c, tv_T t, K')) → Y post K)
theorem tv_done {X : (Int32 → Prop) → Prop} {Y : (Int32 → SY → Prop) → (Nat → Int32) → Prop} {l k : Nat} {t c : Nat → Nat} {K : Nat → Int32} (hl : l < 3) (hG : tv_G t c) (h : tv_R X Y l t c) : X (fun r => Y (fun r' v' => r' = r ∧ i_Rel k (nI l, tv_T t, tv_T c) v') K) := by
  obtain ⟨r, hX, hY⟩ := h
  exact hX _ (hY K _ (fun K' => ⟨rfl, l, t, c, K', rfl, rfl, hl, hG⟩))
theorem i_up {k : Nat} {u : SX} {v : SY} (h : i_Rel k u v) : i_Rel (k + 3) u v := h
theorem tv_G0 : tv_G (fun _ => 0) (fun _ => 0) := ⟨fun _ => (by decide : 0 < 8), fun _ _ => ⟨(by decide : 0 ≤ 9), fun i hi => absurd hi (Nat.not_lt_zero i)⟩⟩
theorem tv_rel0 {k l : Nat} (hl : l < 3) : i_Rel k (nI l, (fun _ => 0), (fun _ => 0)) (nI l, (fun _ => 0), (fun _ => 0), (fun _ => 0)) :=
  ⟨l, fun _ => 0, fun _ => 0, fun _ => 0, rfl, rfl, hl, tv_G0⟩
theorem i_vc0 (k0 : Int32) : wpX_init (fun u => wpY_init (fun v => i_Rel 1 u v) k0) k0 := by
  by_cases h0 : 0 ≤ k0
  · obtain ⟨j, hj, rfl⟩ := nI_of (x := k0) (Int32.not_lt.mpr h0)
    refine br_t h0 (pk_lt j 3 (fun h => br_t h0 (pk_le j 2 (fun _ => tv_rel0 h) (fun h' => absurd h' (by omega)))) (fun h => br_t h0 (pk_le j 2 (fun h' => absurd h' (by omega)) (fun _ => tv_rel0 (l := 2) (by decide)))))
  · exact br_f h0 (br_f h0 (tv_rel0 (l := 0) (by decide)))
theorem i_vc_logic {k : Nat} {u : SX} {v : SY} (I : i_Rel k u v) (hk : k + 3 ≤ 1537) : wpX_logic (fun r => wpY_logic (fun r' => r' = r ∧ i_Rel (k + 3) u v) v) u := by
  obtain ⟨l, t, c, K, rfl, rfl, hl, hG⟩ := I
  exact ⟨rfl, l, t, c, K, rfl, rfl, hl, hG⟩
theorem i_vc_setLogic {k : Nat} {u : SX} {v : SY} (I : i_Rel k u v) (hk : k + 3 ≤ 1537) (v1 : Int32) : wpX_setLogic (fun r u' => wpY_setLogic (fun r' v' => r' = r ∧ i_Rel (k + 3) u' v') v v1) u v1 := by
  obtain ⟨l, t, c, K, rfl, rfl, hl, hG⟩ := I
  have hR : i_Rel (k + 3) (nI l, tv_T t, tv_T c) (nI l, tv_T c, tv_T t, K) := ⟨l, t, c, K, rfl, rfl, hl, hG⟩
  by_cases h0 : v1 < 0
  · exact br_t h0 (br_t h0 ⟨rfl, hR⟩)
  · obtain ⟨j, hj, rfl⟩ := nI_of h0
    exact br_f h0 (pk_lt j 3 (fun h => br_f h0 (pk_le j 2 (fun _ => ⟨rfl, j, t, c, K, rfl, rfl, h, hG⟩) (fun h' => absurd h' (by omega)))) (fun h => br_f h0 (pk_le j 2 (fun h' => absurd h' (by omega)) (fun _ => ⟨rfl, hR⟩))))
theorem tv_Gfeed {t c : Nat → Nat} {w k : Nat} (hG : tv_G t c) (hw : w < 2) (hk : k < 8) (h9 : c w < 9) (hc : ¬ tv_C t c w) : tv_G (tv_put t (9 * w + c w) k) (tv_put c w (c w + 1)) := by
  refine ⟨fun j => ?_, fun w' hw' => ?_⟩
  · unfold tv_put
    split
    · exact hk
    · exact hG.1 j
  · obtain ⟨h9', hpos⟩ := hG.2 w' hw'
    by_cases e : w' = w
    · subst e
      have ec : tv_put c w' (c w' + 1) w' = c w' + 1 := if_pos rfl
      rw [ec]
      refine ⟨by omega, fun i hi => ?_⟩
      have ep : tv_pd (tv_g (tv_put t (9 * w' + c w') k) w') i = tv_pd (tv_g t w') i := tv_pd_eq i (fun i' hi' => if_neg (by omega))
      rw [ep]
      by_cases hi2 : i < c w'
      · exact hpos i hi2
      · obtain rfl : i = c w' := by omega
        exact Nat.pos_of_ne_zero hc
    · have ec : tv_put c w (c w + 1) w' = c w' := if_neg e
      rw [ec]
      refine ⟨h9', fun i hi => ?_⟩
      have ep : tv_pd (tv_g (tv_put t (9 * w + c w) k) w') i = tv_pd (tv_g t w') i := tv_pd_eq i (fun i' hi' => if_neg (by omega))
      rw [ep]
      exact hpos i hi
theorem tv_Gback {t c : Nat → Nat} {w : Nat} (hG : tv_G t c) : tv_G t (tv_put c w (c w - 1)) := by
  refine ⟨hG.1, fun w' hw' => ?_⟩
  obtain ⟨h9', hpos⟩ := hG.2 w' hw'
  have hle : tv_put c w (c w - 1) w' ≤ c w' := by
    unfold tv_put
    split
    · rename_i e
      subst e
      omega
    · exact Nat.le_refl _
  exact ⟨by omega, fun i hi => hpos i (by omega)⟩
theorem tv_putS (f : Nat → Nat) (w x : Nat) : tv_put f w x w = x := if_pos rfl
theorem i_vc_feed {k : Nat} {u : SX} {v : SY} (I : i_Rel k u v) (hk : k + 3 ≤ 1537) (v1 : Int32) (v2 : Int32) : wpX_feed (fun r u' => wpY_feed (fun r' v' => r' = r ∧ i_Rel (k + 3) u' v') v v1 v2) u v1 v2 := by
  obtain ⟨l, t, c, K, rfl, rfl, hl, hG⟩ := I
  have hR : i_Rel (k + 3) (nI l, tv_T t, tv_T c) (nI l, tv_T c, tv_T t, K) := ⟨l, t, c, K, rfl, rfl, hl, hG⟩
  unfold wpX_feed
  dsimp only
  rcases tv_w v1 with h | ⟨w, hw, rfl⟩
  · exact tv_if0 h.1 h.2 _ (br_t rfl (br_f h.1 (br_f h.2 ⟨rfl, hR⟩)))
  · have HY : ∀ post : Int32 → SY → Prop, wY_feed_9 post (nI w) v2 (nI l) (tv_T c) (tv_T t) K → wpY_feed post (nI l, tv_T c, tv_T t, K) (nI w) v2 := fun post H => pk_eq w 0 (fun _ => H) (fun h => pk_eq w 1 (fun _ => H) (fun h' => absurd hw (by omega)))
    refine tv_if1 hw _ (br_f tv_n10 ?_)
    by_cases h0 : v2 < 0
    · exact br_t h0 (HY _ (br_t h0 ⟨rfl, hR⟩))
    · obtain ⟨j, hj, rfl⟩ := nI_of h0
      obtain ⟨h9c, _⟩ := hG.2 w hw
      have iw : vp_in (nI w) 2 := vp_in_nI hw (by decide)
      have ec := tv_Tc c (w := w) (by omega)
      refine br_f h0 (pk_lt j 8 (fun h8 => ?_) (fun h8 => HY _ (br_f h0 (pk_lt 7 j (fun _ => ⟨rfl, hR⟩) (fun h' => absurd h' (by omega))))))
      have n7 : ¬ (7 : Int32) < nI j := nI_nlt (a := 7) (by omega) (by decide)
      by_cases hc : tv_C t c w
      · exact tv_cx1 _ hw hG hc (br_f tv_n10 (HY _ (br_f h0 (br_f n7 (tv_cy1 _ K hw hG hc (br_f tv_n10 ⟨rfl, hR⟩))))))
      · refine tv_cx _ hw hG (fun h => absurd h hc) (fun _ => br_t rfl ⟨iw, pk_lt (c w) 9 (fun h9 => ?_) (fun h9 => ?_) ec⟩)
        · have hn : tv_G (tv_put t (9 * w + c w) j) (tv_put c w (c w + 1)) := tv_Gfeed hG hw h8 h9 hc
          have ex : nI w * 9 + tv_T c (nI w).toNatClampNeg = nI (9 * w + c w) := by rw [ec, tv_xx]
          have ey : 9 * nI w + tv_T c (nI w).toNatClampNeg = nI (9 * w + c w) := by rw [ec, tv_xy]
          have ux : upd (tv_T t) (nI w * 9 + tv_T c (nI w).toNatClampNeg).toNatClampNeg (nI j) = tv_T (tv_put t (9 * w + c w) j) := by rw [ex, nI_clamp (by omega), tv_upd]
          have uy : upd (tv_T t) (9 * nI w + tv_T c (nI w).toNatClampNeg).toNatClampNeg (nI j) = tv_T (tv_put t (9 * w + c w) j) := by rw [ey, nI_clamp (by omega), tv_upd]
          have uc : upd (tv_T c) (nI w).toNatClampNeg (tv_T c (nI w).toNatClampNeg + 1) = tv_T (tv_put c w (c w + 1)) := by rw [ec, nI_clamp (by omega), nI_1, tv_upd]
          have ix : vp_in (nI w * 9 + tv_T c (nI w).toNatClampNeg) 18 := by rw [ex]; exact vp_in_nI (by omega) (by omega)
          have iy : vp_in (9 * nI w + tv_T c (nI w).toNatClampNeg) 18 := by rw [ey]; exact vp_in_nI (by omega) (by omega)
          refine ⟨iw, ix, nm_r ux ⟨iw, iw, nm_r uc ⟨iw, HY _ (br_f h0 (br_f n7 (tv_cy _ K hw hG (fun h => absurd h hc) (fun _ => br_t rfl ⟨iw, pk_lt (c w) 9 (fun _ => ⟨iw, iy, nm_r uy ⟨iw, iw, nm_r uc ⟨iw, rfl, l, _, _, K, rfl, rfl, hl, hn⟩⟩⟩) (fun h' => absurd h9 (by omega)) ec⟩))))⟩⟩⟩
        · exact HY _ (br_f h0 (br_f n7 (tv_cy _ K hw hG (fun h => absurd h hc) (fun _ => br_t rfl ⟨iw, pk_lt (c w) 9 (fun h' => absurd h' (by omega)) (fun _ => ⟨rfl, hR⟩) ec⟩))))
theorem i_vc_back {k : Nat} {u : SX} {v : SY} (I : i_Rel k u v) (hk : k + 3 ≤ 1537) (v1 : Int32) : wpX_back (fun r u' => wpY_back (fun r' v' => r' = r ∧ i_Rel (k + 3) u' v') v v1) u v1 := by
  obtain ⟨l, t, c, K, rfl, rfl, hl, hG⟩ := I
  have hR : i_Rel (k + 3) (nI l, tv_T t, tv_T c) (nI l, tv_T c, tv_T t, K) := ⟨l, t, c, K, rfl, rfl, hl, hG⟩
  unfold wpX_back
  dsimp only
  rcases tv_w v1 with h | ⟨w, hw, rfl⟩
  · exact tv_if0 h.1 h.2 _ (br_t rfl (br_f h.1 (br_f h.2 ⟨rfl, hR⟩)))
  · have HY : ∀ post : Int32 → SY → Prop, wY_back_9 post (nI w) (nI l) (tv_T c) (tv_T t) K → wpY_back post (nI l, tv_T c, tv_T t, K) (nI w) := fun post H => pk_eq w 0 (fun _ => H) (fun h => pk_eq w 1 (fun _ => H) (fun h' => absurd hw (by omega)))
    obtain ⟨h9c, _⟩ := hG.2 w hw
    have iw : vp_in (nI w) 2 := vp_in_nI hw (by decide)
    have ec := tv_Tc c (w := w) (by omega)
    refine tv_if1 hw _ (br_f tv_n10 ⟨iw, pk_eq (c w) 0 (fun h0 => HY _ ⟨iw, pk_eq (c w) 0 (fun _ => ⟨rfl, hR⟩) (fun h' => absurd h0 h') ec⟩) (fun h0 => ?_) ec⟩)
    have ep : nI (c w) - 1 = nI (c w - 1) := pk_sub (b := 1) (by omega)
    have uc : upd (tv_T c) (nI w).toNatClampNeg (tv_T c (nI w).toNatClampNeg - 1) = tv_T (tv_put c w (c w - 1)) := by rw [ec, nI_clamp (by omega), ep, tv_upd]
    have ec' : tv_T (tv_put c w (c w - 1)) (nI w).toNatClampNeg = nI (c w - 1) := by rw [tv_Tc _ (by omega), tv_putS]
    have ex : nI w * 9 + tv_T (tv_put c w (c w - 1)) (nI w).toNatClampNeg = nI (9 * w + (c w - 1)) := by rw [ec', tv_xx]
    have ey : 9 * nI w + tv_T (tv_put c w (c w - 1)) (nI w).toNatClampNeg = nI (9 * w + (c w - 1)) := by rw [ec', tv_xy]
    have ix : vp_in (nI w * 9 + tv_T (tv_put c w (c w - 1)) (nI w).toNatClampNeg) 18 := by rw [ex]; exact vp_in_nI (by omega) (by omega)
    have iy : vp_in (9 * nI w + tv_T (tv_put c w (c w - 1)) (nI w).toNatClampNeg) 18 := by rw [ey]; exact vp_in_nI (by omega) (by omega)
    exact ⟨iw, iw, nm_r uc ⟨iw, ix, HY _ ⟨iw, pk_eq (c w) 0 (fun h' => absurd h' h0) (fun _ => ⟨iw, iw, nm_r uc ⟨iw, iy, by rw [ex, ey], l, t, _, K, rfl, rfl, hl, tv_Gback hG⟩⟩) ec⟩⟩⟩
theorem i_vc_complete {k : Nat} {u : SX} {v : SY} (I : i_Rel k u v) (hk : k + 3 ≤ 1537) (v1 : Int32) : wpX_complete (fun r => wpY_complete (fun r' => r' = r ∧ i_Rel (k + 3) u v) v v1) u v1 := by
  obtain ⟨l, t, c, K, rfl, rfl, hl, hG⟩ := I
  have hR : i_Rel (k + 3) (nI l, tv_T t, tv_T c) (nI l, tv_T c, tv_T t, K) := ⟨l, t, c, K, rfl, rfl, hl, hG⟩
  rcases tv_cs t c v1 with hF | ⟨w, hw, rfl, hc⟩
  · exact tv_cxF _ hG hF (tv_cyF _ K hG hF ⟨rfl, hR⟩)
  · exact tv_cx1 _ hw hG hc (tv_cy1 _ K hw hG hc ⟨rfl, hR⟩)
end
section
/-! the calls that walk the assignments -/
theorem i_vc_value {k : Nat} {u : SX} {v : SY} (I : i_Rel k u v) (hk : k + 3 ≤ 1537) (v1 : Int32) (v2 : Int32) : wpX_value (fun r => wpY_value (fun r' v' => r' = r ∧ i_Rel (k + 3) u v') v v1 v2) u v1 v2 := by
  obtain ⟨l, t, c, K, rfl, rfl, hl, hG⟩ := I
  have hR : i_Rel (k + 3) (nI l, tv_T t, tv_T c) (nI l, tv_T c, tv_T t, K) := ⟨l, t, c, K, rfl, rfl, hl, hG⟩
  unfold wpX_value wpY_value
  dsimp only
  rcases tv_cs t c v1 with hF | ⟨w, hw, rfl, hc⟩
  · exact tv_cxF _ hG hF (br_t rfl (tv_cyF _ K hG hF (br_t rfl ⟨rfl, hR⟩)))
  · by_cases h0 : v2 < 0
    · exact tv_cx1 _ hw hG hc (br_f tv_n10 (br_t h0 (tv_cy1 _ K hw hG hc (br_f tv_n10 (br_t h0 ⟨rfl, hR⟩)))))
    · obtain ⟨j, hj, rfl⟩ := nI_of h0
      refine tv_cx1 _ hw hG hc (br_f tv_n10 (br_f h0 (pk_lt j 81 (fun h => ?_) (fun h => ?_))))
      · exact tv_J hl hw h hG hc (tv_cy1 _ K hw hG hc (br_f tv_n10 (br_f h0 (pk_lt 80 j (fun h' => absurd h' (by omega)) (fun _ => tv_E K hl hw h hG hc (fun K' => ⟨rfl, l, t, c, K', rfl, rfl, hl, hG⟩))))))
      · exact tv_cy1 _ K hw hG hc (br_f tv_n10 (br_f h0 (pk_lt 80 j (fun _ => ⟨rfl, hR⟩) (fun h' => absurd h' (by omega)))))
theorem tv_find_r {l : Nat} {t c : Nat → Nat} (hl : l < 3) (hG : tv_G t c) (p q : Int32) : tv_R (fun post => wpX_find post (nI l, tv_T t, tv_T c) p q) (fun post K => wpY_find post (nI l, tv_T c, tv_T t, K) p q) l t c := by
  unfold tv_R wpX_find wpY_find
  dsimp only
  rcases tv_cs t c p with hF | ⟨w, hw, rfl, hc⟩
  · exact ⟨-1, fun post hp => tv_cxF _ hG hF (br_t rfl hp), fun K post hp => ⟨1, br_f tv_80n (tv_cyF _ K hG hF (br_t rfl (hp K)))⟩⟩
  · obtain ⟨r, hX, hY, hN⟩ := tv_find_s hl hG hw hc q 81 0 rfl
    rcases tv_q3 q with h | ⟨j, hj, rfl⟩
    · have e : r = -1 := hN (fun a => tv_nv h (tv_val_lt l t c w a))
      subst e
      exact ⟨-1, fun post hp => tv_cx1 _ hw hG hc (br_f tv_n10 (tv_it0 h _ (br_t rfl hp))), fun K post hp => ⟨82, hY K post hp⟩⟩
    · exact ⟨r, fun post hp => tv_cx1 _ hw hG hc (br_f tv_n10 (tv_it1 hj _ (br_f tv_n10 ⟨82, hX post hp⟩))), fun K post hp => ⟨82, hY K post hp⟩⟩
theorem i_vc_find {k : Nat} {u : SX} {v : SY} (I : i_Rel k u v) (hk : k + 3 ≤ 1537) (v1 : Int32) (v2 : Int32) : wpX_find (fun r => wpY_find (fun r' v' => r' = r ∧ i_Rel (k + 3) u v') v v1 v2) u v1 v2 := by
  obtain ⟨l, t, c, K, rfl, rfl, hl, hG⟩ := I
  exact tv_done hl hG (tv_find_r hl hG v1 v2)
theorem tv_values_r {l : Nat} {t c : Nat → Nat} (hl : l < 3) (hG : tv_G t c) (p : Int32) : tv_R (fun post => wpX_values post (nI l, tv_T t, tv_T c) p) (fun post K => wpY_values post (nI l, tv_T c, tv_T t, K) p) l t c := by
  unfold tv_R wpX_values wpY_values
  dsimp only
  rcases tv_cs t c p with hF | ⟨w, hw, rfl, hc⟩
  · exact ⟨0, fun post hp => tv_cxF _ hG hF (br_t rfl hp), fun K post hp => ⟨1, br_f tv_80n (tv_cyF _ K hG hF (br_t rfl (hp K)))⟩⟩
  · obtain ⟨r, hX, hY⟩ := tv_values_s hl hG hw hc 81 0 0 rfl
    exact ⟨r, fun post hp => tv_cx1 _ hw hG hc (br_f tv_n10 ⟨82, hX post hp⟩), fun K post hp => ⟨82, hY K post hp⟩⟩
theorem i_vc_values {k : Nat} {u : SX} {v : SY} (I : i_Rel k u v) (hk : k + 3 ≤ 1537) (v1 : Int32) : wpX_values (fun r => wpY_values (fun r' v' => r' = r ∧ i_Rel (k + 3) u v') v v1) u v1 := by
  obtain ⟨l, t, c, K, rfl, rfl, hl, hG⟩ := I
  exact tv_done hl hG (tv_values_r hl hG v1)
theorem tv_valid_r {l : Nat} {t c : Nat → Nat} (hl : l < 3) (hG : tv_G t c) (p : Int32) : tv_R (fun post => wpX_valid post (nI l, tv_T t, tv_T c) p) (fun post K => wpY_valid post (nI l, tv_T c, tv_T t, K) p) l t c := by
  obtain ⟨r, hX, hY⟩ := tv_values_r hl hG p
  unfold tv_R wpX_valid wpY_valid
  dsimp only
  by_cases h : r = 4
  · exact ⟨1, fun post hp => hX _ (br_t h hp), fun K post hp => hY K _ (fun K' => br_t h (hp K'))⟩
  · exact ⟨0, fun post hp => hX _ (br_f h hp), fun K post hp => hY K _ (fun K' => br_f h (hp K'))⟩
theorem i_vc_valid {k : Nat} {u : SX} {v : SY} (I : i_Rel k u v) (hk : k + 3 ≤ 1537) (v1 : Int32) : wpX_valid (fun r => wpY_valid (fun r' v' => r' = r ∧ i_Rel (k + 3) u v') v v1) u v1 := by
  obtain ⟨l, t, c, K, rfl, rfl, hl, hG⟩ := I
  exact tv_done hl hG (tv_valid_r hl hG v1)
theorem tv_bc {t c : Nat → Nat} : tv_F t c 0 ∨ (tv_C t c 0 ∧ tv_F t c 1) ∨ (tv_C t c 0 ∧ tv_C t c 1) := by
  rcases tv_cs t c 0 with h | ⟨w, hw, e, hc⟩
  · exact Or.inl h
  · have e0 : 0 = w := (nI_eq (a := 0) (by omega) (by omega)).mp e
    subst e0
    rcases tv_cs t c 1 with h | ⟨w, hw, e, hc'⟩
    · exact Or.inr (Or.inl ⟨hc, h⟩)
    · have e1 : 1 = w := (nI_eq (a := 1) (by omega) (by omega)).mp e
      subst e1
      exact Or.inr (Or.inr ⟨hc, hc'⟩)
theorem tv_bx1 {post : Int32 → Prop} {t c : Nat → Nat} (L : Int32) (hG : tv_G t c) (h0 : tv_C t c 0) (h1 : tv_C t c 1) (hp : post 1) : wpX_bothComplete post (L, tv_T t, tv_T c) := by
  unfold wpX_bothComplete
  dsimp only
  exact tv_cx1 (w := 0) _ (by decide) hG h0 (br_f tv_n10 (tv_cx1 (w := 1) _ (by decide) hG h1 (br_f tv_n10 hp)))
theorem tv_bxA {post : Int32 → Prop} {t c : Nat → Nat} (L : Int32) (hG : tv_G t c) (h0 : tv_F t c 0) (hp : post 0) : wpX_bothComplete post (L, tv_T t, tv_T c) := by
  unfold wpX_bothComplete
  dsimp only
  exact tv_cxF _ hG h0 (br_t rfl hp)
theorem tv_bxB {post : Int32 → Prop} {t c : Nat → Nat} (L : Int32) (hG : tv_G t c) (h0 : tv_C t c 0) (h1 : tv_F t c 1) (hp : post 0) : wpX_bothComplete post (L, tv_T t, tv_T c) := by
  unfold wpX_bothComplete
  dsimp only
  exact tv_cx1 (w := 0) _ (by decide) hG h0 (br_f tv_n10 (tv_cxF _ hG h1 (br_t rfl hp)))
theorem tv_both_r {l : Nat} {t c : Nat → Nat} (hl : l < 3) (hG : tv_G t c) (p q : Int32) : tv_R (fun post => wpX_findBoth post (nI l, tv_T t, tv_T c) p q) (fun post K => wpY_findBoth post (nI l, tv_T c, tv_T t, K) p q) l t c := by
  unfold tv_R wpX_findBoth wpY_findBoth
  dsimp only
  rcases tv_bc (t := t) (c := c) with hA | ⟨h0, hB⟩ | ⟨h0, h1⟩
  · exact ⟨-1, fun post hp => tv_bxA _ hG hA (br_t rfl hp), fun K post hp => ⟨1, br_f tv_80n (tv_cyF _ K hG hA (br_t rfl (hp K)))⟩⟩
  · exact ⟨-1, fun post hp => tv_bxB _ hG h0 hB (br_t rfl hp), fun K post hp => ⟨1, br_f tv_80n (tv_cy1 (w := 0) _ K (by decide) hG h0 (br_f tv_n10 (tv_cyF _ K hG hB (br_t rfl (hp K)))))⟩⟩
  · obtain ⟨r, hX, hY, hN⟩ := tv_both_s hl hG h0 h1 p q 81 0 rfl
    rcases tv_q3 p with h | ⟨i, hi, rfl⟩
    · have e : r = -1 := hN (fun a hh => tv_nv h (tv_val_lt l t c 0 a) hh.1)
      subst e
      exact ⟨-1, fun post hp => tv_bx1 _ hG h0 h1 (br_f tv_n10 (tv_it0 h _ (br_t rfl hp))), fun K post hp => ⟨82, hY K post hp⟩⟩
    · rcases tv_q3 q with h | ⟨j, hj, rfl⟩
      · have e : r = -1 := hN (fun a hh => tv_nv h (tv_val_lt l t c 1 a) hh.2)
        subst e
        exact ⟨-1, fun post hp => tv_bx1 _ hG h0 h1 (br_f tv_n10 (tv_it1 hi _ (br_f tv_n10 (tv_it0 h _ (br_t rfl hp))))), fun K post hp => ⟨82, hY K post hp⟩⟩
      · exact ⟨r, fun post hp => tv_bx1 _ hG h0 h1 (br_f tv_n10 (tv_it1 hi _ (br_f tv_n10 (tv_it1 hj _ (br_f tv_n10 ⟨82, hX post hp⟩))))), fun K post hp => ⟨82, hY K post hp⟩⟩
theorem i_vc_findBoth {k : Nat} {u : SX} {v : SY} (I : i_Rel k u v) (hk : k + 3 ≤ 1537) (v1 : Int32) (v2 : Int32) : wpX_findBoth (fun r => wpY_findBoth (fun r' v' => r' = r ∧ i_Rel (k + 3) u v') v v1 v2) u v1 v2 := by
  obtain ⟨l, t, c, K, rfl, rfl, hl, hG⟩ := I
  exact tv_done hl hG (tv_both_r hl hG v1 v2)
theorem tv_entails_r {l : Nat} {t c : Nat → Nat} (hl : l < 3) (hG : tv_G t c) : tv_R (fun post => wpX_entails post (nI l, tv_T t, tv_T c)) (fun post K => wpY_entails post (nI l, tv_T c, tv_T t, K)) l t c := by
  unfold tv_R wpX_entails wpY_entails
  dsimp only
  rcases tv_bc (t := t) (c := c) with hA | ⟨h0, hB⟩ | ⟨h0, h1⟩
  · exact ⟨0, fun post hp => tv_bxA _ hG hA (br_t rfl hp), fun K post hp => tv_cyF _ K hG hA (br_t rfl ⟨1, tv_ent0 0 0 (nI l, tv_T c, tv_T t, K) post (hp K)⟩)⟩
  · exact ⟨0, fun post hp => tv_bxB _ hG h0 hB (br_t rfl hp), fun K post hp => tv_cy1 (w := 0) _ K (by decide) hG h0 (br_f tv_n10 (tv_cyF _ K hG hB (br_t rfl ⟨1, tv_ent0 0 0 (nI l, tv_T c, tv_T t, K) post (hp K)⟩)))⟩
  · obtain ⟨r, hX, hY⟩ := tv_entails_s hl hG h0 h1 81 0 rfl
    exact ⟨r, fun post hp => tv_bx1 _ hG h0 h1 (br_f tv_n10 ⟨82, hX post hp⟩), fun K post hp => tv_cy1 (w := 0) _ K (by decide) hG h0 (br_f tv_n10 (tv_cy1 (w := 1) _ K (by decide) hG h1 (br_f tv_n10 ⟨82, hY K post hp⟩)))⟩
theorem i_vc_entails {k : Nat} {u : SX} {v : SY} (I : i_Rel k u v) (hk : k + 3 ≤ 1537) : wpX_entails (fun r => wpY_entails (fun r' v' => r' = r ∧ i_Rel (k + 3) u v') v) u := by
  obtain ⟨l, t, c, K, rfl, rfl, hl, hG⟩ := I
  exact tv_done hl hG (tv_entails_r hl hG)
theorem tv_below_r {l : Nat} {t c : Nat → Nat} (hl : l < 3) (hG : tv_G t c) : tv_R (fun post => wpX_below post (nI l, tv_T t, tv_T c)) (fun post K => wpY_below post (nI l, tv_T c, tv_T t, K)) l t c := by
  unfold tv_R wpX_below wpY_below
  dsimp only
  rcases tv_bc (t := t) (c := c) with hA | ⟨h0, hB⟩ | ⟨h0, h1⟩
  · exact ⟨0, fun post hp => tv_bxA _ hG hA (br_t rfl hp), fun K post hp => tv_cyF _ K hG hA (br_t rfl ⟨1, tv_bel0 0 0 (nI l, tv_T c, tv_T t, K) post (hp K)⟩)⟩
  · exact ⟨0, fun post hp => tv_bxB _ hG h0 hB (br_t rfl hp), fun K post hp => tv_cy1 (w := 0) _ K (by decide) hG h0 (br_f tv_n10 (tv_cyF _ K hG hB (br_t rfl ⟨1, tv_bel0 0 0 (nI l, tv_T c, tv_T t, K) post (hp K)⟩)))⟩
  · obtain ⟨r, hX, hY⟩ := tv_below_s hl hG h0 h1 81 0 rfl
    exact ⟨r, fun post hp => tv_bx1 _ hG h0 h1 (br_f tv_n10 ⟨82, hX post hp⟩), fun K post hp => tv_cy1 (w := 0) _ K (by decide) hG h0 (br_f tv_n10 (tv_cy1 (w := 1) _ K (by decide) hG h1 (br_f tv_n10 ⟨82, hY K post hp⟩)))⟩
theorem i_vc_below {k : Nat} {u : SX} {v : SY} (I : i_Rel k u v) (hk : k + 3 ≤ 1537) : wpX_below (fun r => wpY_below (fun r' v' => r' = r ∧ i_Rel (k + 3) u v') v) u := by
  obtain ⟨l, t, c, K, rfl, rfl, hl, hG⟩ := I
  exact tv_done hl hG (tv_below_r hl hG)
theorem tv_alike_r {l : Nat} {t c : Nat → Nat} (hl : l < 3) (hG : tv_G t c) : tv_R (fun post => wpX_alike post (nI l, tv_T t, tv_T c)) (fun post K => wpY_alike post (nI l, tv_T c, tv_T t, K)) l t c := by
  unfold tv_R wpX_alike wpY_alike
  dsimp only
  rcases tv_bc (t := t) (c := c) with hA | ⟨h0, hB⟩ | ⟨h0, h1⟩
  · exact ⟨0, fun post hp => tv_bxA _ hG hA (br_t rfl hp), fun K post hp => tv_cyF _ K hG hA (br_t rfl ⟨1, tv_ali0 0 0 (nI l, tv_T c, tv_T t, K) post (hp K)⟩)⟩
  · exact ⟨0, fun post hp => tv_bxB _ hG h0 hB (br_t rfl hp), fun K post hp => tv_cy1 (w := 0) _ K (by decide) hG h0 (br_f tv_n10 (tv_cyF _ K hG hB (br_t rfl ⟨1, tv_ali0 0 0 (nI l, tv_T c, tv_T t, K) post (hp K)⟩)))⟩
  · obtain ⟨r, hX, hY⟩ := tv_alike_s hl hG h0 h1 81 0 rfl
    exact ⟨r, fun post hp => tv_bx1 _ hG h0 h1 (br_f tv_n10 ⟨82, hX post hp⟩), fun K post hp => tv_cy1 (w := 0) _ K (by decide) hG h0 (br_f tv_n10 (tv_cy1 (w := 1) _ K (by decide) hG h1 (br_f tv_n10 ⟨82, hY K post hp⟩)))⟩
theorem i_vc_alike {k : Nat} {u : SX} {v : SY} (I : i_Rel k u v) (hk : k + 3 ≤ 1537) : wpX_alike (fun r => wpY_alike (fun r' v' => r' = r ∧ i_Rel (k + 3) u v') v) u := by
  obtain ⟨l, t, c, K, rfl, rfl, hl, hG⟩ := I
  exact tv_done hl hG (tv_alike_r hl hG)
theorem tv_apart_r {l : Nat} {t c : Nat → Nat} (hl : l < 3) (hG : tv_G t c) (p q : Int32) : tv_R (fun post => wpX_findApart post (nI l, tv_T t, tv_T c) p q) (fun post K => wpY_findApart post (nI l, tv_T c, tv_T t, K) p q) l t c := by
  unfold tv_R wpX_findApart wpY_findApart
  dsimp only
  rcases tv_cs t c p with hF | ⟨w, hw, rfl, hc⟩
  · exact ⟨-1, fun post hp => tv_cxF _ hG hF (br_t rfl hp), fun K post hp => ⟨1, br_f tv_80n (tv_cyF _ K hG hF (br_t rfl (hp K)))⟩⟩
  · by_cases h0 : q < 0
    · exact ⟨-1, fun post hp => tv_cx1 _ hw hG hc (br_f tv_n10 (br_t h0 hp)), fun K post hp => ⟨1, br_f tv_80n (tv_cy1 _ K hw hG hc (br_f tv_n10 (br_t h0 (hp K))))⟩⟩
    · obtain ⟨i, hi, rfl⟩ := nI_of h0
      by_cases h4 : i < 4
      · obtain ⟨r, hX, hY⟩ := tv_apart_s hl hG hw hc h4 81 0 rfl
        exact ⟨r, fun post hp => tv_cx1 _ hw hG hc (br_f tv_n10 (br_f h0 (br_t (nI_lt (b := 4) h4 (by decide)) ⟨82, hX post hp⟩))), fun K post hp => ⟨82, hY K post hp⟩⟩
      · exact ⟨-1, fun post hp => tv_cx1 _ hw hG hc (br_f tv_n10 (br_f h0 (br_f (nI_nlt (b := 4) (by omega) hi) hp))), fun K post hp => ⟨1, br_f tv_80n (tv_cy1 _ K hw hG hc (br_f tv_n10 (br_f h0 (br_t (nI_lt (a := 3) (by omega) hi) (hp K)))))⟩⟩
theorem i_vc_findApart {k : Nat} {u : SX} {v : SY} (I : i_Rel k u v) (hk : k + 3 ≤ 1537) (v1 : Int32) (v2 : Int32) : wpX_findApart (fun r => wpY_findApart (fun r' v' => r' = r ∧ i_Rel (k + 3) u v') v v1 v2) u v1 v2 := by
  obtain ⟨l, t, c, K, rfl, rfl, hl, hG⟩ := I
  exact tv_done hl hG (tv_apart_r hl hG v1 v2)
end
