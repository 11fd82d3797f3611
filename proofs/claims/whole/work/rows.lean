section
/-! rows of kit/rows/PURE-ROWS, then my own -/
theorem pk_us {f : Nat → Int32} {k : Nat} {x : Int32} : upd f k x k = x := if_pos rfl
theorem pk_un {f : Nat → Int32} {k j : Nat} {x : Int32} (h : j ≠ k) : upd f k x j = f j := if_neg h
theorem pk_sub {a b : Nat} (h : b ≤ a) : nI a - nI b = nI (a - b) := by
  obtain ⟨c, rfl⟩ : ∃ c, a = c + b := ⟨a - b, by omega⟩
  rw [← nI_add, Int32.add_sub_cancel, Nat.add_sub_cancel]
theorem pk_m1 (n : Nat) : nI (n + 1) + (-1) = nI n := by
  rw [← nI_1, Int32.add_assoc, show (1 : Int32) + (-1) = 0 from rfl, Int32.add_zero]
theorem pk_mul (a b : Nat) : nI a * nI b = nI (a * b) := (Int32.ofNat_mul a b).symm
theorem pk_div {a d : Nat} (ha : a < 2 ^ 31) (h0 : 0 < d) (hd : d < 2 ^ 31) : nI a / nI d = nI (a / d) := by
  apply Int32.toInt_inj.mp
  rw [lg_idiv_nonneg (by rw [nI_toInt ha]; omega) (by rw [nI_toInt hd]; omega), nI_toInt ha, nI_toInt hd, nI_toInt (Nat.lt_of_le_of_lt (Nat.div_le_self a d) ha)]
  first | rfl | exact (Int.natCast_ediv _ _).symm
theorem pk_rem {a d : Nat} (ha : a < 2 ^ 31) (h0 : 0 < d) (hd : d < 2 ^ 31) : nI a - nI a / nI d * nI d = nI (a % d) := by
  rw [pk_div ha h0 hd, pk_mul, pk_sub (Nat.div_mul_le_self a d)]
  exact congrArg nI (by have := Nat.div_add_mod' a d; omega)
theorem pk_ix (x : Int32) {n : Nat} (hn : n < 2 ^ 31) : x < 0 ∨ nI n ≤ x ∨ ∃ j : Nat, j < n ∧ x = nI j := by
  by_cases h : x < 0
  · exact Or.inl h
  · obtain ⟨j, hj, rfl⟩ := nI_of h
    by_cases h2 : j < n
    · exact Or.inr (Or.inr ⟨j, h2, rfl⟩)
    · exact Or.inr (Or.inl (nI_le (by omega) hj))
theorem pk_le {x y : Int32} {A B : Prop} (a b : Nat) (f : a ≤ b → A) (g : b < a → B) (hx : x = nI a := by rfl) (hy : y = nI b := by rfl) (ha : a < 2 ^ 31 := by omega) (hb : b < 2 ^ 31 := by omega) : (x ≤ y → A) ∧ (¬ x ≤ y → B) := by
  subst hx hy
  rw [nI_leI ha hb]
  exact ⟨f, fun z => g (by omega)⟩
theorem pk_lt {x y : Int32} {A B : Prop} (a b : Nat) (f : a < b → A) (g : b ≤ a → B) (hx : x = nI a := by rfl) (hy : y = nI b := by rfl) (ha : a < 2 ^ 31 := by omega) (hb : b < 2 ^ 31 := by omega) : (x < y → A) ∧ (¬ x < y → B) := by
  subst hx hy
  rw [nI_ltI ha hb]
  exact ⟨f, fun z => g (by omega)⟩
theorem pk_eq {x y : Int32} {A B : Prop} (a b : Nat) (f : a = b → A) (g : a ≠ b → B) (hx : x = nI a := by rfl) (hy : y = nI b := by rfl) (ha : a < 2 ^ 31 := by omega) (hb : b < 2 ^ 31 := by omega) : (x = y → A) ∧ (¬ x = y → B) := by
  subst hx hy
  rw [nI_eq ha hb]
  exact ⟨f, g⟩
theorem pk_in {x : Int32} (n N : Nat) (h : n < N) (hx : x = nI n := by rfl) (hN : N < 2 ^ 31 := by omega) : vp_in x N := by
  subst hx
  exact vp_in_nI h hN
theorem pk_cl {x : Int32} (n : Nat) (hx : x = nI n := by rfl) (h : n < 2 ^ 31 := by omega) : x.toNatClampNeg = n := by
  subst hx
  exact nI_clamp h
theorem pk_tn {n : Nat} (h : n < 2 ^ 32) : (nI n).toBitVec.toNat = n := Nat.mod_eq_of_lt h
theorem pk_and (x : Int32) {m : Int32} (k : Nat) (hm : m.toBitVec.toNat = 2 ^ k - 1) : x &&& m = nI (x.toBitVec.toNat % 2 ^ k) := by
  apply Int32.toBitVec_inj.mp
  apply BitVec.eq_of_toNat_eq
  rw [Int32.toBitVec_and, BitVec.toNat_and, hm, Nat.and_two_pow_sub_one_eq_mod]
  show _ = (BitVec.ofNat 32 _).toNat
  rw [BitVec.toNat_ofNat]
  exact (Nat.mod_eq_of_lt (Nat.lt_of_le_of_lt (Nat.mod_le _ _) x.toBitVec.isLt)).symm
theorem pk_andN {n : Nat} (h : n < 2 ^ 32) {m : Int32} (k : Nat) (hm : m.toBitVec.toNat = 2 ^ k - 1) : nI n &&& m = nI (n % 2 ^ k) := by
  rw [pk_and _ k hm, pk_tn h]
theorem pk_shl (a s : Int32) (k : Nat) (hs : (s.toBitVec.smod 32).toNat = k) : (a <<< s).toBitVec.toNat = a.toBitVec.toNat * 2 ^ k % 2 ^ 32 := by
  show (a.toBitVec <<< (s.toBitVec.smod 32).toNat).toNat = _
  rw [hs, BitVec.toNat_shiftLeft, Nat.shiftLeft_eq]
theorem pk_shlN {n : Nat} (s : Int32) (k : Nat) (hs : (s.toBitVec.smod 32).toNat = k) (h : n * 2 ^ k < 2 ^ 32) : nI n <<< s = nI (n * 2 ^ k) := by
  apply Int32.toBitVec_inj.mp
  apply BitVec.eq_of_toNat_eq
  have hn : n < 2 ^ 32 := Nat.lt_of_le_of_lt (Nat.le_mul_of_pos_right n (Nat.two_pow_pos k)) h
  rw [pk_shl _ _ k hs, pk_tn hn, pk_tn h, Nat.mod_eq_of_lt h]
theorem pk_shr (a s : Int32) (k : Nat) (hs : (s.toBitVec.smod 32).toNat = k) : (a >>> s).toInt = a.toInt >>> k := by
  show (a.toBitVec.sshiftRight (s.toBitVec.smod 32).toNat).toInt = _
  rw [hs, BitVec.toInt_sshiftRight]
  rfl
theorem pk_shrN {n : Nat} (h : n < 2 ^ 31) (s : Int32) (k : Nat) (hs : (s.toBitVec.smod 32).toNat = k) : nI n >>> s = nI (n / 2 ^ k) := by
  apply Int32.toInt_inj.mp
  have h2 : n / 2 ^ k ≤ n := Nat.div_le_self _ _
  rw [pk_shr _ _ k hs, nI_toInt h, nI_toInt (by omega), Int.shiftRight_eq_div_pow]
  rfl
/-! pure part: packed and listed stacks, the connectives, the pending count -/
theorem tv_pv {post : Int32 → Prop} {a : Nat} {y : Int32} (hp : post (nI a)) (b : Nat) (e : a = b) (hy : y = nI b := by rfl) : post y := by
  subst hy e
  exact hp
theorem tv_m1 (m : Nat) : nI m + (-1) = nI m - 1 := (Int32.sub_eq_add_neg (a := nI m) (b := 1)).symm
theorem tv_or {e v : Nat} (he : e < 2 ^ 24) (hv : v < 4) : (nI e <<< ((2 : Int32) &&& 31)) ||| nI v = nI (e * 4 + v) := by
  rw [pk_shlN _ 2 (by decide) (by omega)]
  apply Int32.toBitVec_inj.mp
  apply BitVec.eq_of_toNat_eq
  rw [Int32.toBitVec_or, BitVec.toNat_or, pk_tn (by omega), pk_tn (by omega), pk_tn (by omega)]
  rw [← Nat.shiftLeft_eq, ← Nat.shiftLeft_add_eq_or_of_lt (by omega), Nat.shiftLeft_eq]
theorem tv_and {e v : Nat} (he : e < 2 ^ 24) (hv : v < 4) : nI (e * 4 + v) &&& 3 = nI v := by
  rw [pk_andN (by omega) 2 (by decide)]
  exact congrArg nI (by omega)
theorem tv_shr {e v : Nat} (he : e < 2 ^ 24) (hv : v < 4) : nI (e * 4 + v) >>> ((2 : Int32) &&& 31) = nI e := by
  rw [pk_shrN (by omega) _ 2 (by decide)]
  exact congrArg nI (by omega)
def tv_neg (l x : Nat) : Nat := if l = 2 then (if x = 0 then 2 else 0) else 2 - x
def tv_imp (l x y : Nat) : Nat := if l = 0 then (if 2 ≤ 2 - x + y then 2 else 2 - x + y) else if l = 1 then (if 2 - x ≤ y then y else 2 - x) else if y < x then y else 2
def tv_bin (l k x y : Nat) : Nat := if k = 1 then (if y ≤ x then y else x) else if k = 2 then (if x ≤ y then y else x) else tv_imp l x y
def tv_let (i a : Nat) : Nat := a / 3 ^ i % 3
def tv_step (l a k : Nat) (s : List Nat) : List Nat :=
  if 4 ≤ k then tv_let (k - 4) a :: s else if k = 0 then tv_neg l (s.headD 0) :: s.tail else tv_bin l k (s.headD 0) (s.tail.headD 0) :: s.tail.tail
def tv_run (l a : Nat) (g : Nat → Nat) : Nat → List Nat → List Nat
  | 0, s => s
  | m + 1, s => tv_run l a g m (tv_step l a (g m) s)
def tv_pd (g : Nat → Nat) : Nat → Nat
  | 0 => 1
  | m + 1 => if 4 ≤ g m then tv_pd g m - 1 else if g m = 0 then tv_pd g m else tv_pd g m + 1
def tv_enc : List Nat → Nat
  | [] => 0
  | x :: s => tv_enc s * 4 + x
def tv_rp (K : Nat → Int32) : List Nat → Prop
  | [] => True
  | x :: s => K s.length = nI x ∧ tv_rp K s
def tv_o3 : List Nat → Prop
  | [] => True
  | x :: s => x < 3 ∧ tv_o3 s
def tv_g (t : Nat → Nat) (w : Nat) (i : Nat) : Nat := t (9 * w + i)
def tv_T (t : Nat → Nat) (j : Nat) : Int32 := nI (t j)
def tv_G (t c : Nat → Nat) : Prop := (∀ j, t j < 8) ∧ ∀ w, w < 2 → c w ≤ 9 ∧ ∀ i, i < c w → 1 ≤ tv_pd (tv_g t w) i
def tv_val (l : Nat) (t c : Nat → Nat) (w a : Nat) : Nat := (tv_run l a (tv_g t w) (c w) []).headD 0
def tv_put (f : Nat → Nat) (k x : Nat) (j : Nat) : Nat := if j = k then x else f j
theorem tv_upd (f : Nat → Nat) (k x : Nat) : upd (tv_T f) k (nI x) = tv_T (tv_put f k x) := by
  funext j
  show (if j = k then nI x else nI (f j)) = nI (if j = k then x else f j)
  split <;> rfl
theorem tv_Tc (f : Nat → Nat) {w : Nat} (h : w < 2 ^ 31) : tv_T f (nI w).toNatClampNeg = nI (f w) := by
  rw [nI_clamp h]
  rfl
theorem tv_neg_lt {l x : Nat} (hx : x < 3) : tv_neg l x < 3 := by
  unfold tv_neg
  (repeat' split) <;> omega
theorem tv_imp_lt {l x y : Nat} (hx : x < 3) (hy : y < 3) : tv_imp l x y < 3 := by
  unfold tv_imp
  (repeat' split) <;> omega
theorem tv_bin_lt {l k x y : Nat} (hx : x < 3) (hy : y < 3) : tv_bin l k x y < 3 := by
  have h := tv_imp_lt (l := l) hx hy
  unfold tv_bin
  (repeat' split) <;> omega
theorem tv_let_lt (i a : Nat) : tv_let i a < 3 := Nat.mod_lt _ (by decide)
theorem tv_enc_lt : ∀ s : List Nat, tv_o3 s → tv_enc s < 4 ^ s.length
  | [], _ => by decide
  | x :: s, h => by
    have ih := tv_enc_lt s h.2
    have hx := h.1
    show tv_enc s * 4 + x < 4 ^ (s.length + 1)
    rw [Nat.pow_succ]
    omega
theorem tv_enc9 {s : List Nat} (h : tv_o3 s) (hl : s.length ≤ 9) : tv_enc s < 2 ^ 18 :=
  Nat.lt_of_lt_of_le (tv_enc_lt s h) (Nat.le_trans (Nat.pow_le_pow_right (by decide) hl) (by decide))
theorem tv_rpU {K : Nat → Int32} {j : Nat} {z : Int32} : ∀ s : List Nat, tv_rp K s → s.length ≤ j → tv_rp (upd K j z) s
  | [], _, _ => trivial
  | x :: s, h, hj => by
    have hj' : s.length + 1 ≤ j := hj
    exact ⟨(pk_un (by omega)).trans h.1, tv_rpU s h.2 (by omega)⟩
theorem tv_pd_le (g : Nat → Nat) : ∀ m, tv_pd g m ≤ m + 1
  | 0 => Nat.le_refl 1
  | m + 1 => by
    have ih := tv_pd_le g m
    unfold tv_pd
    (repeat' split) <;> omega
theorem tv_pd_eq {g g' : Nat → Nat} : ∀ m, (∀ i, i < m → g i = g' i) → tv_pd g m = tv_pd g' m
  | 0, _ => rfl
  | m + 1, h => by
    have ih := tv_pd_eq m (fun i hi => h i (by omega))
    have hm := h m (by omega)
    unfold tv_pd
    rw [ih, hm]
theorem tv_o3_step {l a k : Nat} : ∀ s : List Nat, tv_o3 s → tv_o3 (tv_step l a k s) := by
  intro s h
  have h0 : s.headD 0 < 3 := by
    cases s with
    | nil => decide
    | cons x s => exact h.1
  have ht : tv_o3 s.tail := by
    cases s with
    | nil => trivial
    | cons x s => exact h.2
  have h1 : s.tail.headD 0 < 3 := by
    cases hs : s.tail with
    | nil => decide
    | cons x r => rw [hs] at ht; exact ht.1
  have htt : tv_o3 s.tail.tail := by
    cases hs : s.tail with
    | nil => trivial
    | cons x r => rw [hs] at ht; exact ht.2
  unfold tv_step
  split
  · exact ⟨tv_let_lt _ _, h⟩
  · split
    · exact ⟨tv_neg_lt h0, ht⟩
    · exact ⟨tv_bin_lt h0 h1, htt⟩
theorem tv_o3_run {l a : Nat} {g : Nat → Nat} : ∀ (m : Nat) (s : List Nat), tv_o3 s → tv_o3 (tv_run l a g m s)
  | 0, _, h => h
  | m + 1, s, h => tv_o3_run m _ (tv_o3_step s h)
theorem tv_val_lt (l : Nat) (t c : Nat → Nat) (w a : Nat) : tv_val l t c w a < 3 := by
  have h := tv_o3_run (l := l) (a := a) (g := tv_g t w) (c w) [] trivial
  unfold tv_val
  cases hs : tv_run l a (tv_g t w) (c w) [] with
  | nil => decide
  | cons x r => rw [hs] at h; exact h.1
end
section
/-! letters, connectives: both sides against the pure functions -/
theorem tv_lx0 {post : Int32 → Prop} {i : Nat} (hi : i < 4) (L : Int32) (T C : Nat → Int32) : ∀ d j b n : Nat, j + d = i → d < n → b < 2 ^ 31 → post (nI (b / 3 ^ d % 3)) → wX_letterValue_5 post (nI i) L T C n (nI b) (nI j) := by
  intro d
  induction d with
  | zero =>
    intro j b n hj hn hb hp
    obtain ⟨n, rfl⟩ : ∃ q, n = q + 1 := ⟨n - 1, by omega⟩
    have e : nI b - nI b / 3 * 3 = nI (b % 3) := pk_rem hb (by decide) (by decide)
    have e1 : b / 3 ^ 0 = b := by simp
    rw [e1] at hp
    exact br_t (nI_le (by omega) (by omega)) ⟨by decide, by rw [e]; exact hp⟩
  | succ d ih =>
    intro j b n hj hn hb hp
    obtain ⟨n, rfl⟩ : ∃ q, n = q + 1 := ⟨n - 1, by omega⟩
    have e : nI b / 3 = nI (b / 3) := pk_div hb (by decide) (by decide)
    refine br_f (nI_ge (by omega) (by omega)) ⟨by decide, nm_r e (nm_r (nI_1 j) (ih (j + 1) (b / 3) n (by omega) (by omega) (by omega) ?_))⟩
    rw [Nat.div_div_eq_div_mul, ← Nat.pow_succ']
    exact hp
theorem tv_lx {post : Int32 → Prop} {i a : Nat} (hi : i < 4) (ha : a < 81) (L : Int32) (T C : Nat → Int32) (hp : post (nI (tv_let i a))) : wpX_letterValue post (L, T, C) (nI i) (nI a) :=
  ⟨i + 1, tv_lx0 hi L T C i 0 a (i + 1) (by omega) (by omega) (by omega) hp⟩
theorem tv_ly {post : Int32 → Prop} {i a : Nat} (hi : i < 4) (ha : a < 81) (L : Int32) (S T K : Nat → Int32) (hp : post (nI (tv_let i a))) : wpY_letter post (L, S, T, K) (nI i) (nI a) := by
  have e0 : nI a - nI a / 3 * 3 = nI (a % 3) := pk_rem (by omega) (by decide) (by decide)
  have e1 : nI a / 3 = nI (a / 3) := pk_div (by omega) (by decide) (by decide)
  have e2 : nI a / 9 = nI (a / 9) := pk_div (by omega) (by decide) (by decide)
  have e3 : nI a / 27 = nI (a / 27) := pk_div (by omega) (by decide) (by decide)
  have f1 : nI (a / 3) - nI (a / 3) / 3 * 3 = nI (a / 3 % 3) := pk_rem (by omega) (by decide) (by decide)
  have f2 : nI (a / 9) - nI (a / 9) / 3 * 3 = nI (a / 9 % 3) := pk_rem (by omega) (by decide) (by decide)
  refine pk_eq i 0 (fun h => ⟨by decide, ?_⟩) (fun h0 => pk_eq i 1 (fun h => ⟨by decide, by decide, ?_⟩) (fun h1 => pk_eq i 2 (fun h => ⟨by decide, by decide, ?_⟩) (fun h2 => ⟨by decide, ?_⟩)))
  · subst h
    rw [e0]
    exact tv_pv hp (a % 3) (by unfold tv_let; omega)
  · subst h
    rw [e1, f1]
    exact tv_pv hp (a / 3 % 3) (by unfold tv_let; omega)
  · subst h
    rw [e2, f2]
    exact tv_pv hp (a / 9 % 3) (by unfold tv_let; omega)
  · obtain rfl : i = 3 := by omega
    rw [e3]
    exact tv_pv hp (a / 27) (by unfold tv_let; omega)
theorem tv_nx {post : Int32 → Prop} {l x : Nat} (hl : l < 3) (hx : x < 3) (T C : Nat → Int32) (hp : post (nI (tv_neg l x))) : wpX_negated post (nI l, T, C) (nI x) := by
  refine pk_eq l 2 (fun h => pk_eq x 0 (fun h' => ?_) (fun h' => ?_)) (fun h => ?_)
  · exact tv_pv hp 2 (by unfold tv_neg; (repeat' split) <;> omega)
  · exact tv_pv hp 0 (by unfold tv_neg; (repeat' split) <;> omega)
  · exact tv_pv hp (2 - x) (by unfold tv_neg; (repeat' split) <;> omega) (pk_sub (a := 2) (by omega))
theorem tv_ny {post : Int32 → Prop} {l x : Nat} (hl : l < 3) (hx : x < 3) (S T K : Nat → Int32) (hp : post (nI (tv_neg l x))) : wpY_not post (nI l, S, T, K) (nI x) := by
  refine pk_le 2 l (fun h => pk_eq x 0 (fun h' => ?_) (fun h' => ?_)) (fun h => ?_)
  · exact tv_pv hp 2 (by unfold tv_neg; (repeat' split) <;> omega)
  · exact tv_pv hp 0 (by unfold tv_neg; (repeat' split) <;> omega)
  · exact tv_pv hp (2 - x) (by unfold tv_neg; (repeat' split) <;> omega) (pk_sub (a := 2) (by omega))
theorem tv_px {post : Int32 → Prop} {l x y : Nat} (hl : l < 3) (hx : x < 3) (hy : y < 3) (T C : Nat → Int32) (hp : post (nI (tv_imp l x y))) : wpX_implied post (nI l, T, C) (nI x) (nI y) := by
  have e2 : 2 - nI x = nI (2 - x) := pk_sub (a := 2) (by omega)
  refine pk_eq l 2 (fun h => pk_lt y x (fun h' => ?_) (fun h' => ?_)) (fun h => nm_r e2 (pk_eq l 1 (fun h1 => pk_le (2 - x) y (fun h2 => ?_) (fun h2 => ?_)) (fun h1 => nm_r (nI_add (2 - x) y) (pk_le 2 (2 - x + y) (fun h2 => ?_) (fun h2 => ?_)))))
  · exact tv_pv hp y (by unfold tv_imp; (repeat' split) <;> omega)
  · exact tv_pv hp 2 (by unfold tv_imp; (repeat' split) <;> omega)
  · exact tv_pv hp y (by unfold tv_imp; (repeat' split) <;> omega)
  · exact tv_pv hp (2 - x) (by unfold tv_imp; (repeat' split) <;> omega)
  · exact tv_pv hp 2 (by unfold tv_imp; (repeat' split) <;> omega)
  · exact tv_pv hp (2 - x + y) (by unfold tv_imp; (repeat' split) <;> omega)
theorem tv_py {post : Int32 → Prop} {l x y : Nat} (hl : l < 3) (hx : x < 3) (hy : y < 3) (S T K : Nat → Int32) (hp : post (nI (tv_imp l x y))) : wpY_implies post (nI l, S, T, K) (nI x) (nI y) := by
  have e2 : 2 - nI x = nI (2 - x) := pk_sub (a := 2) (by omega)
  have e3 : 2 - nI x + nI y = nI (2 - x + y) := by rw [e2, nI_add]
  refine pk_eq l 0 (fun h => pk_le 2 (2 - x + y) (fun h' => ?_) (fun h' => ?_) rfl e3) (fun h => pk_eq l 1 (fun h1 => pk_le (2 - x) y (fun h2 => ?_) (fun h2 => ?_) e2) (fun h1 => pk_lt y x (fun h2 => ?_) (fun h2 => ?_)))
  · exact tv_pv hp 2 (by unfold tv_imp; (repeat' split) <;> omega)
  · exact tv_pv hp (2 - x + y) (by unfold tv_imp; (repeat' split) <;> omega) e3
  · exact tv_pv hp y (by unfold tv_imp; (repeat' split) <;> omega)
  · exact tv_pv hp (2 - x) (by unfold tv_imp; (repeat' split) <;> omega) e2
  · exact tv_pv hp y (by unfold tv_imp; (repeat' split) <;> omega)
  · exact tv_pv hp 2 (by unfold tv_imp; (repeat' split) <;> omega)
theorem tv_ax0 {post : Int32 → Prop} {l e x : Nat} (hl : l < 3) (hx : x < 3) (he : e < 2 ^ 20) (T C : Nat → Int32) (hp : post (nI (e * 4 + tv_neg l x))) : wpX_applied post (nI l, T, C) (nI 0) (nI (e * 4 + x)) := by
  have hb := tv_neg_lt (l := l) hx
  refine nm_r (tv_and (by omega) (by omega)) (nm_r (tv_shr (by omega) (by omega)) (pk_eq 0 0 (fun _ => ?_) (fun h => absurd rfl h)))
  refine tv_nx hl hx T C ?_
  rw [tv_or (by omega) (by omega)]
  exact hp
theorem tv_ax {post : Int32 → Prop} {l k e x y : Nat} (hl : l < 3) (hk1 : 1 ≤ k) (hk4 : k < 4) (hx : x < 3) (hy : y < 3) (he : e < 2 ^ 20) (T C : Nat → Int32) (hp : post (nI (e * 4 + tv_bin l k x y))) : wpX_applied post (nI l, T, C) (nI k) (nI ((e * 4 + y) * 4 + x)) := by
  have hi := tv_imp_lt (l := l) hx hy
  have ez : ∀ z, z < 4 → z = tv_bin l k x y → post ((nI e <<< ((2 : Int32) &&& 31)) ||| nI z) := by
    intro z hz h
    rw [tv_or (by omega) hz, h]
    exact hp
  refine nm_r (tv_and (by omega) (by omega)) (nm_r (tv_shr (by omega) (by omega)) (pk_eq k 0 (fun h => absurd h (by omega)) (fun _ => nm_r (tv_and (by omega) (by omega)) (nm_r (tv_shr (by omega) (by omega)) (pk_eq k 1 (fun h1 => pk_le y x (fun h2 => ez y (by omega) ?_) (fun h2 => ez x (by omega) ?_)) (fun h1 => pk_eq k 2 (fun h2 => pk_le x y (fun h3 => ez y (by omega) ?_) (fun h3 => ez x (by omega) ?_)) (fun h2 => tv_px hl hx hy T C (ez _ (by omega) ?_))))))))
  all_goals (unfold tv_bin; (repeat' split) <;> omega)
/-! the walk of a formula from its last token -/
theorem tv_xx (w m : Nat) : nI w * 9 + nI m = nI (9 * w + m) := by
  rw [show nI w * 9 = nI (w * 9) from pk_mul w 9, nI_add, Nat.mul_comm]
theorem tv_xy (w m : Nat) : 9 * nI w + nI m = nI (9 * w + m) := by
  rw [show 9 * nI w = nI (9 * w) from pk_mul 9 w, nI_add]
theorem tv_neg0 : nI 0 - 1 < 0 := by decide +kernel
theorem tv_jx {post : Int32 → Prop} {l w a : Nat} {t c : Nat → Nat} (hl : l < 3) (hw : w < 2) (ha : a < 81) (hG : tv_G t c) : ∀ (m : Nat) (s : List Nat) (n : Nat), m < n → m ≤ c w → tv_o3 s → s.length = tv_pd (tv_g t w) m → s.length + m ≤ 9 → post (nI ((tv_run l a (tv_g t w) m s).headD 0)) → wX_judge_12 post (nI w) (nI a) (nI l) (tv_T t) (tv_T c) n (nI (tv_enc s)) (nI m - 1) := by
  intro m
  induction m with
  | zero =>
    intro s n hn hm h3 hs h9 hp
    obtain ⟨n, rfl⟩ : ∃ q, n = q + 1 := ⟨n - 1, by omega⟩
    match s, hs with
    | [x], _ =>
      have hx : x < 3 := h3.1
      refine br_t tv_neg0 ?_
      have e : nI (tv_enc [x]) &&& 3 = nI x := tv_and (e := 0) (by decide) (by omega)
      rw [e]
      exact hp
  | succ m ih =>
    intro s n hn hm h3 hs h9 hp
    obtain ⟨n, rfl⟩ : ∃ q, n = q + 1 := ⟨n - 1, by omega⟩
    obtain ⟨h9c, hpos⟩ := hG.2 w hw
    have hpm := hpos m (by omega)
    have hk8 : tv_g t w m < 8 := hG.1 _
    have e : tv_T t (nI w * 9 + nI m).toNatClampNeg = nI (tv_g t w m) := by
      rw [tv_xx, tv_Tc _ (by omega)]
      rfl
    have hE := tv_enc9 h3 (by omega)
    have hr : tv_run l a (tv_g t w) (m + 1) s = tv_run l a (tv_g t w) m (tv_step l a (tv_g t w m) s) := rfl
    rw [hr] at hp
    have hd : tv_pd (tv_g t w) (m + 1) = if 4 ≤ tv_g t w m then tv_pd (tv_g t w) m - 1 else if tv_g t w m = 0 then tv_pd (tv_g t w) m else tv_pd (tv_g t w) m + 1 := rfl
    rw [hd] at hs
    generalize tv_g t w m = k at *
    rw [nI_pred]
    refine br_f (nI_pos (by omega)) ⟨by rw [tv_xx]; exact vp_in_nI (by omega) (by omega), nm_r e (pk_lt k 4 (fun h4 => ?_) (fun h4 => ?_))⟩
    · by_cases h0 : k = 0
      · subst h0
        match s, hs with
        | x :: s, hs =>
          have hs' : s.length + 1 = tv_pd (tv_g t w) m := hs
          have hE' : tv_enc s * 4 + x < 2 ^ 18 := hE
          refine tv_ax0 (e := tv_enc s) hl h3.1 (by omega) _ _ ?_
          exact nm_r (tv_m1 m) (ih (tv_neg l x :: s) n (by omega) (by omega) ⟨tv_neg_lt h3.1, h3.2⟩ hs (by simp only [List.length_cons] at *; omega) hp)
        | [], hs =>
          simp at hs
          omega
      · rw [if_neg (by omega), if_neg h0] at hs
        match s, hs with
        | x :: y :: s, hs =>
          have hs' : s.length + 1 + 1 = tv_pd (tv_g t w) m + 1 := hs
          have hE' : (tv_enc s * 4 + y) * 4 + x < 2 ^ 18 := hE
          refine tv_ax (e := tv_enc s) hl (by omega) h4 h3.1 h3.2.1 (by omega) _ _ ?_
          refine nm_r (tv_m1 m) (ih (tv_bin l k x y :: s) n (by omega) (by omega) ⟨tv_bin_lt h3.1 h3.2.1, h3.2.2⟩ (by simp only [List.length_cons]; omega) (by simp only [List.length_cons] at *; omega) ?_)
          have ev : tv_step l a k (x :: y :: s) = tv_bin l k x y :: s := by
            unfold tv_step
            rw [if_neg (by omega), if_neg h0]
            rfl
          rw [ev] at hp
          exact hp
        | [x], hs =>
          simp at hs
          omega
        | [], hs =>
          simp at hs
    · rw [if_pos h4] at hs
      rw [show nI k - 4 = nI (k - 4) from pk_sub (b := 4) h4]
      refine tv_lx (by omega) ha _ _ _ ?_
      refine nm_r (tv_or (by omega) (by have := tv_let_lt (k - 4) a; omega)) (nm_r (tv_m1 m) (ih (tv_let (k - 4) a :: s) n (by omega) (by omega) ⟨tv_let_lt _ _, h3⟩ (by simp only [List.length_cons]; omega) (by simp only [List.length_cons]; omega) ?_))
      have ev : tv_step l a k s = tv_let (k - 4) a :: s := by
        unfold tv_step
        rw [if_pos h4]
      rw [ev] at hp
      exact hp
theorem tv_leaf {J : Int32 → Int32 → (Nat → Int32) → (Nat → Int32) → (Nat → Int32) → Prop} {q m z b : Nat} {S T K : Nat → Int32} (hq : q < 9) (hz : z = b) (hJ : J (nI (q + 1)) (nI m - 1) S T (upd K q (nI b))) : vp_in (nI (q + 1) - 1) 10 ∧ ∀ st : Nat → Int32, st = upd K (nI (q + 1) - 1).toNatClampNeg (nI z) → ∀ x4 : Int32, x4 = nI m + (-1) → J (nI (q + 1)) x4 S T st := by
  subst hz
  rw [nI_pred, nI_clamp (by omega), tv_m1]
  exact ⟨vp_in_nI (by omega) (by omega), nm_e (nm_e hJ)⟩
theorem tv_e91 {post : Int32 → SY → Prop} {J : Int32 → Int32 → (Nat → Int32) → (Nat → Int32) → (Nat → Int32) → Prop} {X1 X2 : Int32} {l k x y q m : Nat} {S T K : Nat → Int32} (hl : l < 3) (hk1 : 1 ≤ k) (hk4 : k < 4) (hx : x < 3) (hy : y < 3) (hq : q < 8) (ex : K (q + 1) = nI x) (ey : K q = nI y) (hJ : J (nI (q + 1)) (nI m - 1) S T (upd K q (nI (tv_bin l k x y)))) : wY_eval_91 post J X1 X2 (nI (q + 2)) (nI m) (nI k) (nI l) S T K := by
  have e1 : nI (q + 2) - 1 = nI (q + 1) := nI_pred (q + 1)
  have e2 : nI (q + 2) - 2 = nI q := pk_sub (a := q + 2) (b := 2) (by omega)
  have e3 : nI (q + 2) + (-1) = nI (q + 1) := pk_m1 (q + 1)
  have f1 : K (nI (q + 2) - 1).toNatClampNeg = nI x := by rw [e1, nI_clamp (by omega), ex]
  have f2 : K (nI (q + 2) - 2).toNatClampNeg = nI y := by rw [e2, nI_clamp (by omega), ey]
  have i1 : vp_in (nI (q + 2) - 1) 10 := by rw [e1]; exact vp_in_nI (by omega) (by omega)
  have i2 : vp_in (nI (q + 2) - 2) 10 := by rw [e2]; exact vp_in_nI (by omega) (by omega)
  refine pk_lt (q + 2) 2 (fun h => absurd h (by omega)) (fun _ => ⟨i1, nm_r f1 ⟨i2, nm_r f2 (nm_r e3 (pk_eq k 1 (fun h1 => pk_le y x (fun h2 => tv_leaf (by omega) ?_ hJ) (fun h2 => tv_leaf (by omega) ?_ hJ)) (fun h1 => pk_eq k 2 (fun h2 => pk_le x y (fun h3 => tv_leaf (by omega) ?_ hJ) (fun h3 => tv_leaf (by omega) ?_ hJ)) (fun h2 => tv_py hl hx hy S T K (tv_leaf (by omega) ?_ hJ)))))⟩⟩)
  all_goals (unfold tv_bin; (repeat' split) <;> omega)
theorem tv_ey {post : Int32 → SY → Prop} {l w a : Nat} {t c : Nat → Nat} (hl : l < 3) (hw : w < 2) (ha : a < 81) (hG : tv_G t c) : ∀ (m : Nat) (s : List Nat) (n : Nat) (K : Nat → Int32), m < n → m ≤ c w → tv_o3 s → tv_rp K s → s.length = tv_pd (tv_g t w) m → s.length + m ≤ 9 → (∀ K' : Nat → Int32, post (nI ((tv_run l a (tv_g t w) m s).headD 0)) (nI l, tv_T c, tv_T t, K')) → wY_eval_12 post (nI w) (nI a) (nI l) n (nI s.length) (nI m - 1) (tv_T c) (tv_T t) K := by
  intro m
  induction m with
  | zero =>
    intro s n K hn hm h3 hK hs h9 hp
    obtain ⟨n, rfl⟩ : ∃ q, n = q + 1 := ⟨n - 1, by omega⟩
    match s, hs with
    | [x], _ =>
      have e : K 0 = nI x := hK.1
      refine br_t tv_neg0 ?_
      rw [e]
      exact hp K
  | succ m ih =>
    intro s n K hn hm h3 hK hs h9 hp
    obtain ⟨n, rfl⟩ : ∃ q, n = q + 1 := ⟨n - 1, by omega⟩
    obtain ⟨h9c, hpos⟩ := hG.2 w hw
    have hpm := hpos m (by omega)
    have hk8 : tv_g t w m < 8 := hG.1 _
    have e : tv_T t (9 * nI w + nI m).toNatClampNeg = nI (tv_g t w m) := by
      rw [tv_xy, tv_Tc _ (by omega)]
      rfl
    have hr : tv_run l a (tv_g t w) (m + 1) s = tv_run l a (tv_g t w) m (tv_step l a (tv_g t w m) s) := rfl
    rw [hr] at hp
    have hd : tv_pd (tv_g t w) (m + 1) = if 4 ≤ tv_g t w m then tv_pd (tv_g t w) m - 1 else if tv_g t w m = 0 then tv_pd (tv_g t w) m else tv_pd (tv_g t w) m + 1 := rfl
    rw [hd] at hs
    generalize tv_g t w m = k at *
    rw [nI_pred]
    refine br_f (nI_pos (by omega)) ⟨by rw [tv_xy]; exact vp_in_nI (by omega) (by omega), nm_r e (pk_lt k 4 (fun h4 => ?_) (fun h4 => ?_))⟩
    · by_cases h0 : k = 0
      · subst h0
        match s, hs with
        | x :: s, hs =>
          have hs' : s.length + 1 = tv_pd (tv_g t w) m := hs
          have h9' : s.length + 1 + (m + 1) ≤ 9 := h9
          have hx : x < 3 := h3.1
          have e1 : nI (x :: s).length - 1 = nI s.length := nI_pred _
          refine pk_eq 0 0 (fun _ => pk_lt (s.length + 1) 1 (fun h => absurd h (by omega)) (fun _ => ?_)) (fun h => absurd rfl h)
          rw [e1, nI_clamp (by omega), hK.1]
          refine ⟨vp_in_nI (by omega) (by omega), tv_ny hl hx _ _ _ ⟨vp_in_nI (by omega) (by omega), nm_e (nm_r (tv_m1 m) (ih (tv_neg l x :: s) n _ (by omega) (by omega) ⟨tv_neg_lt hx, h3.2⟩ ⟨pk_us, tv_rpU s hK.2 (by omega)⟩ hs (by simp only [List.length_cons]; omega) hp))⟩⟩
        | [], hs =>
          simp at hs
          omega
      · rw [if_neg (by omega), if_neg h0] at hs
        match s, hs with
        | x :: y :: s, hs =>
          have hs' : s.length + 1 + 1 = tv_pd (tv_g t w) m + 1 := hs
          have h9' : s.length + 1 + 1 + (m + 1) ≤ 9 := h9
          refine pk_eq k 0 (fun h => absurd h h0) (fun _ => ?_)
          refine tv_e91 (q := s.length) hl (by omega) h4 h3.1 h3.2.1 (by omega) hK.1 hK.2.1 ?_
          refine ih (tv_bin l k x y :: s) n _ (by omega) (by omega) ⟨tv_bin_lt h3.1 h3.2.1, h3.2.2⟩ ⟨pk_us, tv_rpU s hK.2.2 (by omega)⟩ (by simp only [List.length_cons]; omega) (by simp only [List.length_cons]; omega) ?_
          have ev : tv_step l a k (x :: y :: s) = tv_bin l k x y :: s := by
            unfold tv_step
            rw [if_neg (by omega), if_neg h0]
            rfl
          rw [ev] at hp
          exact hp
        | [x], hs =>
          simp at hs
          omega
        | [], hs =>
          simp at hs
    · rw [if_pos h4] at hs
      rw [show nI k - 4 = nI (k - 4) from pk_sub (b := 4) h4]
      refine tv_ly (by omega) ha _ _ _ _ ?_
      rw [nI_clamp (by omega)]
      refine ⟨vp_in_nI (by omega) (by omega), nm_e (nm_r (nI_1 _) (nm_r (tv_m1 m) (ih (tv_let (k - 4) a :: s) n _ (by omega) (by omega) ⟨tv_let_lt _ _, h3⟩ ⟨pk_us, tv_rpU s hK (by omega)⟩ (by simp only [List.length_cons]; omega) (by simp only [List.length_cons]; omega) ?_)))⟩
      have ev : tv_step l a k s = tv_let (k - 4) a :: s := by
        unfold tv_step
        rw [if_pos h4]
      rw [ev] at hp
      exact hp
/-- formula w is complete -/
def tv_C (t c : Nat → Nat) (w : Nat) : Prop := tv_pd (tv_g t w) (c w) = 0
theorem tv_J {post : Int32 → Prop} {l w a : Nat} {t c : Nat → Nat} (hl : l < 3) (hw : w < 2) (ha : a < 81) (hG : tv_G t c) (hc : tv_C t c w) (hp : post (nI (tv_val l t c w a))) : wpX_judge post (nI l, tv_T t, tv_T c) (nI w) (nI a) := by
  obtain ⟨h9c, _⟩ := hG.2 w hw
  refine ⟨vp_in_nI hw (by omega), nm_r (by rw [tv_Tc _ (by omega)]) ⟨c w + 1, tv_jx hl hw ha hG (c w) [] (c w + 1) (by omega) (by omega) trivial hc.symm (by simp only [List.length_nil]; omega) hp⟩⟩
theorem tv_E {post : Int32 → SY → Prop} {l w a : Nat} {t c : Nat → Nat} (K : Nat → Int32) (hl : l < 3) (hw : w < 2) (ha : a < 81) (hG : tv_G t c) (hc : tv_C t c w) (hp : ∀ K' : Nat → Int32, post (nI (tv_val l t c w a)) (nI l, tv_T c, tv_T t, K')) : wpY_eval post (nI l, tv_T c, tv_T t, K) (nI w) (nI a) := by
  obtain ⟨h9c, _⟩ := hG.2 w hw
  refine ⟨vp_in_nI hw (by omega), nm_r (by rw [tv_Tc _ (by omega)]) ⟨c w + 1, tv_ey hl hw ha hG (c w) [] (c w + 1) K (by omega) (by omega) trivial trivial hc.symm (by simp only [List.length_nil]; omega) hp⟩⟩
end
