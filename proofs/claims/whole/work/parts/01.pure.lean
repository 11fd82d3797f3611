/-! rows of kit/rows/PURE-ROWS, then my own -/
theorem pk_us {f : Nat → Int32} {k : Nat} {x : Int32} : upd f k x k = x := if_pos rfl
theorem pk_un {f : Nat → Int32} {k j : Nat} {x : Int32} (h : j ≠ k) : upd f k x j = f j := if_neg h
theorem pk_sub {a b : Nat} (h : b ≤ a) : nI a - nI b = nI (a - b) := by
  obtain ⟨c, rfl⟩ : ∃ c, a = c + b := ⟨a - b, by omega⟩
  rw [← nI_add, Int32.add_sub_cancel, Nat.add_sub_cancel]
theorem pk_m1 (n : Nat) : nI (n + 1) + (-1) = nI n := by
  rw [← nI_1, Int32.add_assoc, show (1 : Int32) + (-1) = 0 from rfl, Int32.add_zero]
theorem pk_mul (a b : Nat) : nI a * nI b = nI (a * b) := (Int32.ofNat_mul a b).symm
theorem pk_div {a d : Nat} (ha : a < 2 ^ 31) (h0 : 0 < d) (hd : d < 2 ^ 31) : nI a / nI d = nI (a / d) := by
  apply Int32.toInt_inj.mp
  rw [lg_idiv_nonneg (by rw [nI_toInt ha]; omega) (by rw [nI_toInt hd]; omega), nI_toInt ha, nI_toInt hd, nI_toInt (Nat.lt_of_le_of_lt (Nat.div_le_self a d) ha)]
  first | rfl | exact (Int.natCast_ediv _ _).symm
theorem pk_rem {a d : Nat} (ha : a < 2 ^ 31) (h0 : 0 < d) (hd : d < 2 ^ 31) : nI a - nI a / nI d * nI d = nI (a % d) := by
  rw [pk_div ha h0 hd, pk_mul, pk_sub (Nat.div_mul_le_self a d)]
  exact congrArg nI (by have := Nat.div_add_mod' a d; omega)
theorem pk_ix (x : Int32) {n : Nat} (hn : n < 2 ^ 31) : x < 0 ∨ nI n ≤ x ∨ ∃ j : Nat, j < n ∧ x = nI j := by
  by_cases h : x < 0
  · exact Or.inl h
  · obtain ⟨j, hj, rfl⟩ := nI_of h
    by_cases h2 : j < n
    · exact Or.inr (Or.inr ⟨j, h2, rfl⟩)
    · exact Or.inr (Or.inl (nI_le (by omega) hj))
theorem pk_le {x y : Int32} {A B : Prop} (a b : Nat) (f : a ≤ b → A) (g : b < a → B) (hx : x = nI a := by rfl) (hy : y = nI b := by rfl) (ha : a < 2 ^ 31 := by omega) (hb : b < 2 ^ 31 := by omega) : (x ≤ y → A) ∧ (¬ x ≤ y → B) := by
  subst hx hy
  rw [nI_leI ha hb]
  exact ⟨f, fun z => g (by omega)⟩
theorem pk_lt {x y : Int32} {A B : Prop} (a b : Nat) (f : a < b → A) (g : b ≤ a → B) (hx : x = nI a := by rfl) (hy : y = nI b := by rfl) (ha : a < 2 ^ 31 := by omega) (hb : b < 2 ^ 31 := by omega) : (x < y → A) ∧ (¬ x < y → B) := by
  subst hx hy
  rw [nI_ltI ha hb]
  exact ⟨f, fun z => g (by omega)⟩
theorem pk_eq {x y : Int32} {A B : Prop} (a b : Nat) (f : a = b → A) (g : a ≠ b → B) (hx : x = nI a := by rfl) (hy : y = nI b := by rfl) (ha : a < 2 ^ 31 := by omega) (hb : b < 2 ^ 31 := by omega) : (x = y → A) ∧ (¬ x = y → B) := by
  subst hx hy
  rw [nI_eq ha hb]
  exact ⟨f, g⟩
theorem pk_in {x : Int32} (n N : Nat) (h : n < N) (hx : x = nI n := by rfl) (hN : N < 2 ^ 31 := by omega) : vp_in x N := by
  subst hx
  exact vp_in_nI h hN
theorem pk_cl {x : Int32} (n : Nat) (hx : x = nI n := by rfl) (h : n < 2 ^ 31 := by omega) : x.toNatClampNeg = n := by
  subst hx
  exact nI_clamp h
theorem pk_tn {n : Nat} (h : n < 2 ^ 32) : (nI n).toBitVec.toNat = n := Nat.mod_eq_of_lt h
theorem pk_and (x : Int32) {m : Int32} (k : Nat) (hm : m.toBitVec.toNat = 2 ^ k - 1) : x &&& m = nI (x.toBitVec.toNat % 2 ^ k) := by
  apply Int32.toBitVec_inj.mp
  apply BitVec.eq_of_toNat_eq
  rw [Int32.toBitVec_and, BitVec.toNat_and, hm, Nat.and_two_pow_sub_one_eq_mod]
  show _ = (BitVec.ofNat 32 _).toNat
  rw [BitVec.toNat_ofNat]
  exact (Nat.mod_eq_of_lt (Nat.lt_of_le_of_lt (Nat.mod_le _ _) x.toBitVec.isLt)).symm
theorem pk_andN {n : Nat} (h : n < 2 ^ 32) {m : Int32} (k : Nat) (hm : m.toBitVec.toNat = 2 ^ k - 1) : nI n &&& m = nI (n % 2 ^ k) := by
  rw [pk_and _ k hm, pk_tn h]
theorem pk_shl (a s : Int32) (k : Nat) (hs : (s.toBitVec.smod 32).toNat = k) : (a <<< s).toBitVec.toNat = a.toBitVec.toNat * 2 ^ k % 2 ^ 32 := by
  show (a.toBitVec <<< (s.toBitVec.smod 32).toNat).toNat = _
  rw [hs, BitVec.toNat_shiftLeft, Nat.shiftLeft_eq]
theorem pk_shlN {n : Nat} (s : Int32) (k : Nat) (hs : (s.toBitVec.smod 32).toNat = k) (h : n * 2 ^ k < 2 ^ 32) : nI n <<< s = nI (n * 2 ^ k) := by
  apply Int32.toBitVec_inj.mp
  apply BitVec.eq_of_toNat_eq
  have hn : n < 2 ^ 32 := Nat.lt_of_le_of_lt (Nat.le_mul_of_pos_right n (Nat.two_pow_pos k)) h
  rw [pk_shl _ _ k hs, pk_tn hn, pk_tn h, Nat.mod_eq_of_lt h]
theorem pk_shr (a s : Int32) (k : Nat) (hs : (s.toBitVec.smod 32).toNat = k) : (a >>> s).toInt = a.toInt >>> k := by
  show (a.toBitVec.sshiftRight (s.toBitVec.smod 32).toNat).toInt = _
  rw [hs, BitVec.toInt_sshiftRight]
  rfl
theorem pk_shrN {n : Nat} (h : n < 2 ^ 31) (s : Int32) (k : Nat) (hs : (s.toBitVec.smod 32).toNat = k) : nI n >>> s = nI (n / 2 ^ k) := by
  apply Int32.toInt_inj.mp
  have h2 : n / 2 ^ k ≤ n := Nat.div_le_self _ _
  rw [pk_shr _ _ k hs, nI_toInt h, nI_toInt (by omega), Int.shiftRight_eq_div_pow]
  rfl
/-! pure part: packed and listed stacks, the connectives, the pending count -/
theorem tv_pv {post : Int32 → Prop} {a : Nat} {y : Int32} (hp : post (nI a)) (b : Nat) (e : a = b) (hy : y = nI b := by rfl) : post y := by
  subst hy e
  exact hp
theorem tv_m1 (m : Nat) : nI m + (-1) = nI m - 1 := (Int32.sub_eq_add_neg (a := nI m) (b := 1)).symm
theorem tv_or {e v : Nat} (he : e < 2 ^ 24) (hv : v < 4) : (nI e <<< ((2 : Int32) &&& 31)) ||| nI v = nI (e * 4 + v) := by
  rw [pk_shlN _ 2 (by decide) (by omega)]
  apply Int32.toBitVec_inj.mp
  apply BitVec.eq_of_toNat_eq
  rw [Int32.toBitVec_or, BitVec.toNat_or, pk_tn (by omega), pk_tn (by omega), pk_tn (by omega)]
  rw [← Nat.shiftLeft_eq, ← Nat.shiftLeft_add_eq_or_of_lt (by omega), Nat.shiftLeft_eq]
theorem tv_and {e v : Nat} (he : e < 2 ^ 24) (hv : v < 4) : nI (e * 4 + v) &&& 3 = nI v := by
  rw [pk_andN (by omega) 2 (by decide)]
  exact congrArg nI (by omega)
theorem tv_shr {e v : Nat} (he : e < 2 ^ 24) (hv : v < 4) : nI (e * 4 + v) >>> ((2 : Int32) &&& 31) = nI e := by
  rw [pk_shrN (by omega) _ 2 (by decide)]
  exact congrArg nI (by omega)
def tv_neg (l x : Nat) : Nat := if l = 2 then (if x = 0 then 2 else 0) else 2 - x
def tv_imp (l x y : Nat) : Nat := if l = 0 then (if 2 ≤ 2 - x + y then 2 else 2 - x + y) else if l = 1 then (if 2 - x ≤ y then y else 2 - x) else if y < x then y else 2
def tv_bin (l k x y : Nat) : Nat := if k = 1 then (if y ≤ x then y else x) else if k = 2 then (if x ≤ y then y else x) else tv_imp l x y
def tv_let (i a : Nat) : Nat := a / 3 ^ i % 3
def tv_step (l a k : Nat) (s : List Nat) : List Nat :=
  if 4 ≤ k then tv_let (k - 4) a :: s else if k = 0 then tv_neg l (s.headD 0) :: s.tail else tv_bin l k (s.headD 0) (s.tail.headD 0) :: s.tail.tail
def tv_run (l a : Nat) (g : Nat → Nat) : Nat → List Nat → List Nat
  | 0, s => s
  | m + 1, s => tv_run l a g m (tv_step l a (g m) s)
def tv_pd (g : Nat → Nat) : Nat → Nat
  | 0 => 1
  | m + 1 => if 4 ≤ g m then tv_pd g m - 1 else if g m = 0 then tv_pd g m else tv_pd g m + 1
def tv_enc : List Nat → Nat
  | [] => 0
  | x :: s => tv_enc s * 4 + x
def tv_rp (K : Nat → Int32) : List Nat → Prop
  | [] => True
  | x :: s => K s.length = nI x ∧ tv_rp K s
def tv_o3 : List Nat → Prop
  | [] => True
  | x :: s => x < 3 ∧ tv_o3 s
def tv_g (t : Nat → Nat) (w : Nat) (i : Nat) : Nat := t (9 * w + i)
def tv_T (t : Nat → Nat) (j : Nat) : Int32 := nI (t j)
def tv_G (t c : Nat → Nat) : Prop := (∀ j, t j < 8) ∧ ∀ w, w < 2 → c w ≤ 9 ∧ ∀ i, i < c w → 1 ≤ tv_pd (tv_g t w) i
def tv_val (l : Nat) (t c : Nat → Nat) (w a : Nat) : Nat := (tv_run l a (tv_g t w) (c w) []).headD 0
def tv_put (f : Nat → Nat) (k x : Nat) (j : Nat) : Nat := if j = k then x else f j
theorem tv_upd (f : Nat → Nat) (k x : Nat) : upd (tv_T f) k (nI x) = tv_T (tv_put f k x) := by
  funext j
  show (if j = k then nI x else nI (f j)) = nI (if j = k then x else f j)
  split <;> rfl
theorem tv_Tc (f : Nat → Nat) {w : Nat} (h : w < 2 ^ 31) : tv_T f (nI w).toNatClampNeg = nI (f w) := by
  rw [nI_clamp h]
  rfl
theorem tv_neg_lt {l x : Nat} (hx : x < 3) : tv_neg l x < 3 := by
  unfold tv_neg
  (repeat' split) <;> omega
theorem tv_imp_lt {l x y : Nat} (hx : x < 3) (hy : y < 3) : tv_imp l x y < 3 := by
  unfold tv_imp
  (repeat' split) <;> omega
theorem tv_bin_lt {l k x y : Nat} (hx : x < 3) (hy : y < 3) : tv_bin l k x y < 3 := by
  have h := tv_imp_lt (l := l) hx hy
  unfold tv_bin
  (repeat' split) <;> omega
theorem tv_let_lt (i a : Nat) : tv_let i a < 3 := Nat.mod_lt _ (by decide)
theorem tv_enc_lt : ∀ s : List Nat, tv_o3 s → tv_enc s < 4 ^ s.length
  | [], _ => by decide
  | x :: s, h => by
    have ih := tv_enc_lt s h.2
    have hx := h.1
    show tv_enc s * 4 + x < 4 ^ (s.length + 1)
    rw [Nat.pow_succ]
    omega
theorem tv_enc9 {s : List Nat} (h : tv_o3 s) (hl : s.length ≤ 9) : tv_enc s < 2 ^ 18 :=
  Nat.lt_of_lt_of_le (tv_enc_lt s h) (Nat.le_trans (Nat.pow_le_pow_right (by decide) hl) (by decide))
theorem tv_rpU {K : Nat → Int32} {j : Nat} {z : Int32} : ∀ s : List Nat, tv_rp K s → s.length ≤ j → tv_rp (upd K j z) s
  | [], _, _ => trivial
  | x :: s, h, hj => by
    have hj' : s.length + 1 ≤ j := hj
    exact ⟨(pk_un (by omega)).trans h.1, tv_rpU s h.2 (by omega)⟩
theorem tv_pd_le (g : Nat → Nat) : ∀ m, tv_pd g m ≤ m + 1
  | 0 => Nat.le_refl 1
  | m + 1 => by
    have ih := tv_pd_le g m
    unfold tv_pd
    (repeat' split) <;> omega
theorem tv_pd_eq {g g' : Nat → Nat} : ∀ m, (∀ i, i < m → g i = g' i) → tv_pd g m = tv_pd g' m
  | 0, _ => rfl
  | m + 1, h => by
    have ih := tv_pd_eq m (fun i hi => h i (by omega))
    have hm := h m (by omega)
    unfold tv_pd
    rw [ih, hm]
theorem tv_o3_step {l a k : Nat} : ∀ s : List Nat, tv_o3 s → tv_o3 (tv_step l a k s) := by
  intro s h
  have h0 : s.headD 0 < 3 := by
    cases s with
    | nil => decide
    | cons x s => exact h.1
  have ht : tv_o3 s.tail := by
    cases s with
    | nil => trivial
    | cons x s => exact h.2
  have h1 : s.tail.headD 0 < 3 := by
    cases hs : s.tail with
    | nil => decide
    | cons x r => rw [hs] at ht; exact ht.1
  have htt : tv_o3 s.tail.tail := by
    cases hs : s.tail with
    | nil => trivial
    | cons x r => rw [hs] at ht; exact ht.2
  unfold tv_step
  split
  · exact ⟨tv_let_lt _ _, h⟩
  · split
    · exact ⟨tv_neg_lt h0, ht⟩
    · exact ⟨tv_bin_lt h0 h1, htt⟩
theorem tv_o3_run {l a : Nat} {g : Nat → Nat} : ∀ (m : Nat) (s : List Nat), tv_o3 s → tv_o3 (tv_run l a g m s)
  | 0, _, h => h
  | m + 1, s, h => tv_o3_run m _ (tv_o3_step s h)
theorem tv_val_lt (l : Nat) (t c : Nat → Nat) (w a : Nat) : tv_val l t c w a < 3 := by
  have h := tv_o3_run (l := l) (a := a) (g := tv_g t w) (c w) [] trivial
  unfold tv_val
  cases hs : tv_run l a (tv_g t w) (c w) [] with
  | nil => decide
  | cons x r => rw [hs] at h; exact h.1
