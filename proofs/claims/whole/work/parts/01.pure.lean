theorem pk_us {f : Nat → Int32} {k : Nat} {x : Int32} : upd f k x k = x := if_pos rfl
theorem pk_un {f : Nat → Int32} {k j : Nat} {x : Int32} (h : j ≠ k) : upd f k x j = f j := if_neg h
theorem pk_sub {a b : Nat} (h : b ≤ a) : nI a - nI b = nI (a - b) := by
  obtain ⟨c, rfl⟩ : ∃ c, a = c + b := ⟨a - b, by omega⟩
  rw [← nI_add, Int32.add_sub_cancel, Nat.add_sub_cancel]
theorem pk_m1 (n : Nat) : nI (n + 1) + (-1) = nI n := by
  rw [← nI_1, Int32.add_assoc, show (1 : Int32) + (-1) = 0 from rfl, Int32.add_zero]
theorem pk_mul (a b : Nat) : nI a * nI b = nI (a * b) := (Int32.ofNat_mul a b).symm
theorem pk_sub_toInt {a b : Nat} (ha : a < 2 ^ 30) (hb : b < 2 ^ 30) : (nI a - nI b).toInt = (a : Int) - b := by
  rw [Int32.toInt_sub, nI_toInt (by omega), nI_toInt (by omega)]
  exact Int.bmod_eq_of_le (by omega) (by omega)
theorem pk_sneg {a b : Nat} (hb : b < 2 ^ 30) (h : a < b) : nI a - nI b < 0 := by
  rw [Int32.lt_iff_toInt_lt, pk_sub_toInt (by omega) hb, show (0 : Int32).toInt = 0 from by decide]
  omega
theorem pk_le {x y : Int32} {A B : Prop} (a b : Nat) (f : a ≤ b → A) (g : b < a → B) (hx : x = nI a := by rfl) (hy : y = nI b := by rfl) (ha : a < 2 ^ 31 := by omega) (hb : b < 2 ^ 31 := by omega) : (x ≤ y → A) ∧ (¬ x ≤ y → B) := by
  subst hx hy
  rw [nI_leI ha hb]
  exact ⟨f, fun z => g (by omega)⟩
theorem pk_lt {x y : Int32} {A B : Prop} (a b : Nat) (f : a < b → A) (g : b ≤ a → B) (hx : x = nI a := by rfl) (hy : y = nI b := by rfl) (ha : a < 2 ^ 31 := by omega) (hb : b < 2 ^ 31 := by omega) : (x < y → A) ∧ (¬ x < y → B) := by
  subst hx hy
  rw [nI_ltI ha hb]
  exact ⟨f, fun z => g (by omega)⟩
theorem pk_eq {x y : Int32} {A B : Prop} (a b : Nat) (f : a = b → A) (g : a ≠ b → B) (hx : x = nI a := by rfl) (hy : y = nI b := by rfl) (ha : a < 2 ^ 31 := by omega) (hb : b < 2 ^ 31 := by omega) : (x = y → A) ∧ (¬ x = y → B) := by
  subst hx hy
  rw [nI_eq ha hb]
  exact ⟨f, g⟩
theorem pk_in {x : Int32} (n N : Nat) (h : n < N) (hx : x = nI n := by rfl) (hN : N < 2 ^ 31 := by omega) : vp_in x N := by
  subst hx
  exact vp_in_nI h hN
theorem pk_cl {x : Int32} (n : Nat) (hx : x = nI n := by rfl) (h : n < 2 ^ 31 := by omega) : x.toNatClampNeg = n := by
  subst hx
  exact nI_clamp h
theorem pk_loop {σ : Type} (W : Nat → Nat → σ → Prop) (I : Nat → σ → Prop) (e i0 : Nat) (s : σ) (hi : i0 ≤ e) (h0 : I i0 s) (hx : ∀ n s, I e s → W (n + 1) e s)
    (hs : ∀ n i s, i < e → I i s → (∀ s', I (i + 1) s' → W n (i + 1) s') → W (n + 1) i s) : ∃ n, W n i0 s :=
  ⟨e + 1, loop_i W I e hx hs (e + 1) i0 s hi (by omega) h0⟩
/-! one length: a natural -/
def bs_n (l : Nat → Int32) (j : Nat) : Nat := (l j).toNatClampNeg
/-- every slot's length is one of 0 .. 40 -/
def bs_len (l : Nat → Int32) : Prop := ∀ j, j < 11 → ∃ n, n ≤ 40 ∧ l j = nI n
theorem bs_nE {l : Nat → Int32} (h : bs_len l) {j : Nat} (hj : j < 11) : l j = nI (bs_n l j) := by
  obtain ⟨n, hn, e⟩ := h j hj
  unfold bs_n
  rw [e, nI_clamp (by omega)]
theorem bs_n40 {l : Nat → Int32} (h : bs_len l) {j : Nat} (hj : j < 11) : bs_n l j ≤ 40 := by
  obtain ⟨n, hn, e⟩ := h j hj
  unfold bs_n
  rw [e, nI_clamp (by omega)]
  exact hn
theorem bs_lenU {l : Nat → Int32} (h : bs_len l) (i : Nat) {n : Nat} (hn : n ≤ 40) : bs_len (upd l i (nI n)) := by
  intro j hj
  by_cases z : j = i
  · subst z
    exact ⟨n, hn, pk_us⟩
  · obtain ⟨m, hm, e⟩ := h j hj
    exact ⟨m, hm, (pk_un z).trans e⟩
theorem bs_updI (c : Nat → Int32) (i : Nat) : upd c i (c i) = c := by
  funext j
  by_cases z : j = i
  · subst z
    exact pk_us
  · exact pk_un z
/-! what the loops make of the cells -/
def bs_cp (f t : Nat) (c : Nat → Int32) : Nat → (Nat → Int32)
  | 0 => c
  | n + 1 => upd (bs_cp f t c n) (t + n) (bs_cp f t c n (f + n))
def bs_fl (t : Nat) (x : Int32) (c : Nat → Int32) : Nat → (Nat → Int32)
  | 0 => c
  | n + 1 => upd (bs_fl t x c n) (t + n) x
def bs_sw (p q : Nat) (c : Nat → Int32) : Nat → (Nat → Int32)
  | 0 => c
  | n + 1 => upd (upd (bs_sw p q c n) (p + n) (bs_sw p q c n (q + n))) (q + n) (bs_sw p q c n (p + n))
theorem bs_cpI (f : Nat) (c : Nat → Int32) : ∀ n, bs_cp f f c n = c
  | 0 => rfl
  | n + 1 => by
    show upd (bs_cp f f c n) (f + n) (bs_cp f f c n (f + n)) = c
    rw [bs_cpI f c n]
    exact bs_updI c (f + n)
/-! what the loops that only read answer -/
def bs_sum (l : Nat → Int32) : Nat → Nat
  | 0 => 0
  | n + 1 => bs_sum l n + bs_n l n
theorem bs_sum_le {l : Nat → Int32} (h : bs_len l) : ∀ n, n ≤ 11 → bs_sum l n ≤ 40 * n
  | 0, _ => Nat.le_refl _
  | n + 1, hn => by
    have a := bs_sum_le h n (by omega)
    have b := bs_n40 h (j := n) (by omega)
    show bs_sum l n + bs_n l n ≤ 40 * (n + 1)
    omega
def bs_ord (c : Nat → Int32) (p q : Nat) (z : Int32) : Nat → Nat → Int32
  | 0, _ => z
  | m + 1, k => if c (p + k) = c (q + k) then bs_ord c p q z m (k + 1) else if c (q + k) ≤ c (p + k) then 2 else 1
def bs_bg (c : Nat → Int32) (p q : Nat) : Nat → Nat → Int32
  | 0, _ => 1
  | m + 1, k => if c (p + k) = c (q + k) then bs_bg c p q m (k + 1) else 0
theorem bs_bg01 (c : Nat → Int32) (p q : Nat) : ∀ m k, bs_bg c p q m k = 0 ∨ bs_bg c p q m k = 1
  | 0, _ => Or.inr rfl
  | m + 1, k => by
    show (if c (p + k) = c (q + k) then bs_bg c p q m (k + 1) else 0) = 0 ∨ (if c (p + k) = c (q + k) then bs_bg c p q m (k + 1) else 0) = 1
    by_cases z : c (p + k) = c (q + k)
    · rw [if_pos z]
      exact bs_bg01 c p q m (k + 1)
    · rw [if_neg z]
      exact Or.inl rfl
def bs_beg (c l : Nat → Int32) (u v s : Nat) : Int32 := if bs_n l u < s + bs_n l v then 0 else bs_bg c (40 * u + s) (40 * v) (bs_n l v) 0
theorem bs_beg01 (c l : Nat → Int32) (u v s : Nat) : bs_beg c l u v s = 0 ∨ bs_beg c l u v s = 1 := by
  unfold bs_beg
  by_cases z : bs_n l u < s + bs_n l v
  · rw [if_pos z]
    exact Or.inl rfl
  · rw [if_neg z]
    exact bs_bg01 c _ _ _ 0
def bs_fd (c l : Nat → Int32) (u v : Nat) : Nat → Nat → Int32
  | 0, _ => 0
  | m + 1, s => if bs_beg c l u v s = 0 then bs_fd c l u v m (s + 1) else nI (s + 1)
/-! the last word of a comparison: by the lengths -/
def bs_z (a b : Nat) : Int32 := if a = b then 0 else if b ≤ a then 2 else 1
/-! arguments -/
def bs_B (n : Nat) (x : Int32) : Prop := ∃ j, j ≤ n ∧ x = nI j
def bs_P (x : Int32) : Prop := ∃ j, j ≤ 254 ∧ x = nI (j + 1)
theorem bs_pos {x : Int32} (h : ¬ x < 1) : ∃ j, j + 1 < 2 ^ 31 ∧ x = nI (j + 1) := by
  have h0 : ¬ x < 0 := fun z => h (Int32.lt_trans z (by decide))
  obtain ⟨j, hj, rfl⟩ := nI_of h0
  cases j with
  | zero => exact absurd (nI_lt (a := 0) (b := 1) (by omega) (by decide)) h
  | succ i => exact ⟨i, hj, rfl⟩
theorem bs_Pc (x : Int32) : (x < 1 ∧ ¬ bs_P x) ∨ (¬ x < 1 ∧ 255 < x ∧ ¬ x ≤ 255 ∧ ¬ bs_P x) ∨ (¬ x < 1 ∧ ¬ 255 < x ∧ x ≤ 255 ∧ bs_P x) := by
  by_cases h : x < 1
  · refine Or.inl ⟨h, fun ⟨j, hj, e⟩ => ?_⟩
    rw [e] at h
    exact nI_nlt (a := j + 1) (b := 1) (by omega) (by omega) h
  · obtain ⟨j, hj, rfl⟩ := bs_pos h
    by_cases z : j ≤ 254
    · exact Or.inr (Or.inr ⟨h, nI_nlt (a := 255) (b := j + 1) (by omega) (by decide), nI_le (a := j + 1) (b := 255) (by omega) (by decide), j, z, rfl⟩)
    · refine Or.inr (Or.inl ⟨h, nI_lt (a := 255) (b := j + 1) (by omega) hj, nI_ge (a := 255) (b := j + 1) (by omega) hj, fun ⟨i, hi, e⟩ => ?_⟩)
      rw [nI_eq hj (by omega)] at e
      omega
theorem bs_40r (s : Nat) : nI s * 40 = nI (40 * s) := by
  rw [Nat.mul_comm]
  exact pk_mul s 40
theorem bs_40l (s : Nat) : 40 * nI s = nI (40 * s) := pk_mul 40 s
theorem bs_10 : ¬ (1 : Int32) = 0 := by decide
theorem bs_top (e : Nat) : (6 + nI (e + 1)) - 1 = nI (6 + e) := by
  rw [show (6 : Int32) + nI (e + 1) = nI (6 + (e + 1)) from nI_add 6 (e + 1)]
  exact nI_pred (6 + e)
theorem bs_top5 (e : Nat) : 5 + nI (e + 1) = nI (6 + e) := (nI_add 5 (e + 1)).trans (congrArg nI (by omega))
theorem bs_l {l : Nat → Int32} (h : bs_len l) {a : Nat} (ha : a < 11) : l (nI a).toNatClampNeg = nI (bs_n l a) := by
  rw [nI_clamp (by omega)]
  exact bs_nE h ha
theorem bs_in {a : Nat} (ha : a < 11) : vp_in (nI a) 11 := vp_in_nI ha (by decide)
/-- both sides hold the same cells, lengths and depth; every length is one of 0 .. 40, the pile has at most 4 -/
def i_Rel (_ : Nat) (u : SX) (v : SY) : Prop := ∃ (d : Nat) (c l : Nat → Int32), u = (nI d, c, l) ∧ v = (nI d, c, l) ∧ d ≤ 4 ∧ bs_len l
theorem bs_rel {k d : Nat} {c l : Nat → Int32} (hd : d ≤ 4) (hl : bs_len l) : i_Rel k (nI d, c, l) (nI d, c, l) := ⟨d, c, l, rfl, rfl, hd, hl⟩
theorem i_up {k : Nat} {u : SX} {v : SY} (h : i_Rel k u v) : i_Rel (k + 3) u v := h
theorem i_vc0 : wpX_init (fun u => wpY_init (fun v => i_Rel 0 u v)) := ⟨0, fun _ => 0, fun _ => 0, rfl, rfl, by omega, fun j _ => ⟨0, by omega, rfl⟩⟩
