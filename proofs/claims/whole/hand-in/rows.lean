section
theorem pk_us {f : Nat → Int32} {k : Nat} {x : Int32} : upd f k x k = x := if_pos rfl
theorem pk_un {f : Nat → Int32} {k j : Nat} {x : Int32} (h : j ≠ k) : upd f k x j = f j := if_neg h
theorem pk_sub {a b : Nat} (h : b ≤ a) : nI a - nI b = nI (a - b) := by
  obtain ⟨c, rfl⟩ : ∃ c, a = c + b := ⟨a - b, by omega⟩
  rw [← nI_add, Int32.add_sub_cancel, Nat.add_sub_cancel]
theorem pk_m1 (n : Nat) : nI (n + 1) + (-1) = nI n := by
  rw [← nI_1, Int32.add_assoc, show (1 : Int32) + (-1) = 0 from rfl, Int32.add_zero]
theorem pk_mul (a b : Nat) : nI a * nI b = nI (a * b) := (Int32.ofNat_mul a b).symm
theorem pk_sub_toInt {a b : Nat} (ha : a < 2 ^ 30) (hb : b < 2 ^ 30) : (nI a - nI b).toInt = (a : Int) - b := by
  rw [Int32.toInt_sub, nI_toInt (by omega), nI_toInt (by omega)]
  exact Int.bmod_eq_of_le (by omega) (by omega)
theorem pk_sneg {a b : Nat} (hb : b < 2 ^ 30) (h : a < b) : nI a - nI b < 0 := by
  rw [Int32.lt_iff_toInt_lt, pk_sub_toInt (by omega) hb, show (0 : Int32).toInt = 0 from by decide]
  omega
theorem pk_le {x y : Int32} {A B : Prop} (a b : Nat) (f : a ≤ b → A) (g : b < a → B) (hx : x = nI a := by rfl) (hy : y = nI b := by rfl) (ha : a < 2 ^ 31 := by omega) (hb : b < 2 ^ 31 := by omega) : (x ≤ y → A) ∧ (¬ x ≤ y → B) := by
  subst hx hy
  rw [nI_leI ha hb]
  exact ⟨f, fun z => g (by omega)⟩
theorem pk_lt {x y : Int32} {A B : Prop} (a b : Nat) (f : a < b → A) (g : b ≤ a → B) (hx : x = nI a := by rfl) (hy : y = nI b := by rfl) (ha : a < 2 ^ 31 := by omega) (hb : b < 2 ^ 31 := by omega) : (x < y → A) ∧ (¬ x < y → B) := by
  subst hx hy
  rw [nI_ltI ha hb]
  exact ⟨f, fun z => g (by omega)⟩
theorem pk_eq {x y : Int32} {A B : Prop} (a b : Nat) (f : a = b → A) (g : a ≠ b → B) (hx : x = nI a := by rfl) (hy : y = nI b := by rfl) (ha : a < 2 ^ 31 := by omega) (hb : b < 2 ^ 31 := by omega) : (x = y → A) ∧ (¬ x = y → B) := by
  subst hx hy
  rw [nI_eq ha hb]
  exact ⟨f, g⟩
theorem pk_in {x : Int32} (n N : Nat) (h : n < N) (hx : x = nI n := by rfl) (hN : N < 2 ^ 31 := by omega) : vp_in x N := by
  subst hx
  exact vp_in_nI h hN
theorem pk_cl {x : Int32} (n : Nat) (hx : x = nI n := by rfl) (h : n < 2 ^ 31 := by omega) : x.toNatClampNeg = n := by
  subst hx
  exact nI_clamp h
theorem pk_loop {σ : Type} (W : Nat → Nat → σ → Prop) (I : Nat → σ → Prop) (e i0 : Nat) (s : σ) (hi : i0 ≤ e) (h0 : I i0 s) (hx : ∀ n s, I e s → W (n + 1) e s)
    (hs : ∀ n i s, i < e → I i s → (∀ s', I (i + 1) s' → W n (i + 1) s') → W (n + 1) i s) : ∃ n, W n i0 s :=
  ⟨e + 1, loop_i W I e hx hs (e + 1) i0 s hi (by omega) h0⟩
/-! one length: a natural -/
def bs_n (l : Nat → Int32) (j : Nat) : Nat := (l j).toNatClampNeg
/-- every slot's length is one of 0 .. 40 -/
def bs_len (l : Nat → Int32) : Prop := ∀ j, j < 11 → ∃ n, n ≤ 40 ∧ l j = nI n
theorem bs_nE {l : Nat → Int32} (h : bs_len l) {j : Nat} (hj : j < 11) : l j = nI (bs_n l j) := by
  obtain ⟨n, hn, e⟩ := h j hj
  unfold bs_n
  rw [e, nI_clamp (by omega)]
theorem bs_n40 {l : Nat → Int32} (h : bs_len l) {j : Nat} (hj : j < 11) : bs_n l j ≤ 40 := by
  obtain ⟨n, hn, e⟩ := h j hj
  unfold bs_n
  rw [e, nI_clamp (by omega)]
  exact hn
theorem bs_lenU {l : Nat → Int32} (h : bs_len l) (i : Nat) {n : Nat} (hn : n ≤ 40) : bs_len (upd l i (nI n)) := by
  intro j hj
  by_cases z : j = i
  · subst z
    exact ⟨n, hn, pk_us⟩
  · obtain ⟨m, hm, e⟩ := h j hj
    exact ⟨m, hm, (pk_un z).trans e⟩
theorem bs_updI (c : Nat → Int32) (i : Nat) : upd c i (c i) = c := by
  funext j
  by_cases z : j = i
  · subst z
    exact pk_us
  · exact pk_un z
/-! what the loops make of the cells -/
def bs_cp (f t : Nat) (c : Nat → Int32) : Nat → (Nat → Int32)
  | 0 => c
  | n + 1 => upd (bs_cp f t c n) (t + n) (bs_cp f t c n (f + n))
def bs_fl (t : Nat) (x : Int32) (c : Nat → Int32) : Nat → (Nat → Int32)
  | 0 => c
  | n + 1 => upd (bs_fl t x c n) (t + n) x
def bs_sw (p q : Nat) (c : Nat → Int32) : Nat → (Nat → Int32)
  | 0 => c
  | n + 1 => upd (upd (bs_sw p q c n) (p + n) (bs_sw p q c n (q + n))) (q + n) (bs_sw p q c n (p + n))
theorem bs_cpI (f : Nat) (c : Nat → Int32) : ∀ n, bs_cp f f c n = c
  | 0 => rfl
  | n + 1 => by
    show upd (bs_cp f f c n) (f + n) (bs_cp f f c n (f + n)) = c
    rw [bs_cpI f c n]
    exact bs_updI c (f + n)
/-! what the loops that only read answer -/
def bs_sum (l : Nat → Int32) : Nat → Nat
  | 0 => 0
  | n + 1 => bs_sum l n + bs_n l n
theorem bs_sum_le {l : Nat → Int32} (h : bs_len l) : ∀ n, n ≤ 11 → bs_sum l n ≤ 40 * n
  | 0, _ => Nat.le_refl _
  | n + 1, hn => by
    have a := bs_sum_le h n (by omega)
    have b := bs_n40 h (j := n) (by omega)
    show bs_sum l n + bs_n l n ≤ 40 * (n + 1)
    omega
def bs_ord (c : Nat → Int32) (p q : Nat) (z : Int32) : Nat → Nat → Int32
  | 0, _ => z
  | m + 1, k => if c (p + k) = c (q + k) then bs_ord c p q z m (k + 1) else if c (q + k) ≤ c (p + k) then 2 else 1
def bs_bg (c : Nat → Int32) (p q : Nat) : Nat → Nat → Int32
  | 0, _ => 1
  | m + 1, k => if c (p + k) = c (q + k) then bs_bg c p q m (k + 1) else 0
theorem bs_bg01 (c : Nat → Int32) (p q : Nat) : ∀ m k, bs_bg c p q m k = 0 ∨ bs_bg c p q m k = 1
  | 0, _ => Or.inr rfl
  | m + 1, k => by
    show (if c (p + k) = c (q + k) then bs_bg c p q m (k + 1) else 0) = 0 ∨ (if c (p + k) = c (q + k) then bs_bg c p q m (k + 1) else 0) = 1
    by_cases z : c (p + k) = c (q + k)
    · rw [if_pos z]
      exact bs_bg01 c p q m (k + 1)
    · rw [if_neg z]
      exact Or.inl rfl
def bs_beg (c l : Nat → Int32) (u v s : Nat) : Int32 := if bs_n l u < s + bs_n l v then 0 else bs_bg c (40 * u + s) (40 * v) (bs_n l v) 0
theorem bs_beg01 (c l : Nat → Int32) (u v s : Nat) : bs_beg c l u v s = 0 ∨ bs_beg c l u v s = 1 := by
  unfold bs_beg
  by_cases z : bs_n l u < s + bs_n l v
  · rw [if_pos z]
    exact Or.inl rfl
  · rw [if_neg z]
    exact bs_bg01 c _ _ _ 0
def bs_fd (c l : Nat → Int32) (u v : Nat) : Nat → Nat → Int32
  | 0, _ => 0
  | m + 1, s => if bs_beg c l u v s = 0 then bs_fd c l u v m (s + 1) else nI (s + 1)
/-! the last word of a comparison: by the lengths -/
def bs_z (a b : Nat) : Int32 := if a = b then 0 else if b ≤ a then 2 else 1
/-! arguments -/
def bs_B (n : Nat) (x : Int32) : Prop := ∃ j, j ≤ n ∧ x = nI j
def bs_P (x : Int32) : Prop := ∃ j, j ≤ 254 ∧ x = nI (j + 1)
theorem bs_pos {x : Int32} (h : ¬ x < 1) : ∃ j, j + 1 < 2 ^ 31 ∧ x = nI (j + 1) := by
  have h0 : ¬ x < 0 := fun z => h (Int32.lt_trans z (by decide))
  obtain ⟨j, hj, rfl⟩ := nI_of h0
  cases j with
  | zero => exact absurd (nI_lt (a := 0) (b := 1) (by omega) (by decide)) h
  | succ i => exact ⟨i, hj, rfl⟩
theorem bs_Pc (x : Int32) : (x < 1 ∧ ¬ bs_P x) ∨ (¬ x < 1 ∧ 255 < x ∧ ¬ x ≤ 255 ∧ ¬ bs_P x) ∨ (¬ x < 1 ∧ ¬ 255 < x ∧ x ≤ 255 ∧ bs_P x) := by
  by_cases h : x < 1
  · refine Or.inl ⟨h, fun ⟨j, hj, e⟩ => ?_⟩
    rw [e] at h
    exact nI_nlt (a := j + 1) (b := 1) (by omega) (by omega) h
  · obtain ⟨j, hj, rfl⟩ := bs_pos h
    by_cases z : j ≤ 254
    · exact Or.inr (Or.inr ⟨h, nI_nlt (a := 255) (b := j + 1) (by omega) (by decide), nI_le (a := j + 1) (b := 255) (by omega) (by decide), j, z, rfl⟩)
    · refine Or.inr (Or.inl ⟨h, nI_lt (a := 255) (b := j + 1) (by omega) hj, nI_ge (a := 255) (b := j + 1) (by omega) hj, fun ⟨i, hi, e⟩ => ?_⟩)
      rw [nI_eq hj (by omega)] at e
      omega
theorem bs_40r (s : Nat) : nI s * 40 = nI (40 * s) := by
  rw [Nat.mul_comm]
  exact pk_mul s 40
theorem bs_40l (s : Nat) : 40 * nI s = nI (40 * s) := pk_mul 40 s
theorem bs_10 : ¬ (1 : Int32) = 0 := by decide
theorem bs_top (e : Nat) : (6 + nI (e + 1)) - 1 = nI (6 + e) := by
  rw [show (6 : Int32) + nI (e + 1) = nI (6 + (e + 1)) from nI_add 6 (e + 1)]
  exact nI_pred (6 + e)
theorem bs_top5 (e : Nat) : 5 + nI (e + 1) = nI (6 + e) := (nI_add 5 (e + 1)).trans (congrArg nI (by omega))
theorem bs_l {l : Nat → Int32} (h : bs_len l) {a : Nat} (ha : a < 11) : l (nI a).toNatClampNeg = nI (bs_n l a) := by
  rw [nI_clamp (by omega)]
  exact bs_nE h ha
theorem bs_in {a : Nat} (ha : a < 11) : vp_in (nI a) 11 := vp_in_nI ha (by decide)
/-- both sides hold the same cells, lengths and depth; every length is one of 0 .. 40, the pile has at most 4 -/
def i_Rel (_ : Nat) (u : SX) (v : SY) : Prop := ∃ (d : Nat) (c l : Nat → Int32), u = (nI d, c, l) ∧ v = (nI d, c, l) ∧ d ≤ 4 ∧ bs_len l
theorem bs_rel {k d : Nat} {c l : Nat → Int32} (hd : d ≤ 4) (hl : bs_len l) : i_Rel k (nI d, c, l) (nI d, c, l) := ⟨d, c, l, rfl, rfl, hd, hl⟩
theorem i_up {k : Nat} {u : SX} {v : SY} (h : i_Rel k u v) : i_Rel (k + 3) u v := h
theorem i_vc0 : wpX_init (fun u => wpY_init (fun v => i_Rel 0 u v)) := ⟨0, fun _ => 0, fun _ => 0, rfl, rfl, by omega, fun j _ => ⟨0, by omega, rfl⟩⟩
end
section
/-! the class's own methods, each with a general post -/
theorem bx_B1 {post : Int32 → Prop} {x : Int32} (h : bs_B 255 x) (p : post 1) : wpX_isByte post x := by
  obtain ⟨j, hj, rfl⟩ := h
  exact br_f (nI_pos (by omega)) (br_f (nI_nlt (a := 255) (b := j) hj (by decide)) p)
theorem bx_B0 {post : Int32 → Prop} {x : Int32} (h : ¬ bs_B 255 x) (p : post 0) : wpX_isByte post x := by
  by_cases a : x < 0
  · exact br_t a p
  · obtain ⟨j, hj, rfl⟩ := nI_of a
    have hn : ¬ j ≤ 255 := fun z => h ⟨j, z, rfl⟩
    exact br_f a (br_t (nI_lt (a := 255) (b := j) (by omega) hj) p)
theorem bx_V1 {post : Int32 → Prop} {x : Int32} (h : bs_B 5 x) (p : post 1) : wpX_isVariable post x := by
  obtain ⟨j, hj, rfl⟩ := h
  exact br_f (nI_pos (by omega)) (br_f (nI_ge (a := j) (b := 6) (by omega) (by decide)) p)
theorem bx_V0 {post : Int32 → Prop} {x : Int32} (h : ¬ bs_B 5 x) (p : post 0) : wpX_isVariable post x := by
  by_cases a : x < 0
  · exact br_t a p
  · obtain ⟨j, hj, rfl⟩ := nI_of a
    have hn : ¬ j ≤ 5 := fun z => h ⟨j, z, rfl⟩
    exact br_f a (br_t (nI_le (a := 6) (b := j) (by omega) hj) p)
theorem bx_P1 {post : Int32 → Prop} {x : Int32} (h : bs_P x) (p : post 1) : wpX_isPlace post x := by
  rcases bs_Pc x with ⟨_, z⟩ | ⟨_, _, _, z⟩ | ⟨a, b, _, _⟩
  · exact absurd h z
  · exact absurd h z
  · exact br_f a (br_f b p)
theorem bx_P0 {post : Int32 → Prop} {x : Int32} (h : ¬ bs_P x) (p : post 0) : wpX_isPlace post x := by
  rcases bs_Pc x with ⟨a, _⟩ | ⟨a, b, _, _⟩ | ⟨_, _, _, z⟩
  · exact br_t a p
  · exact br_f a (br_t b p)
  · exact absurd z h
theorem bx_top {post : Int32 → Prop} {e : Nat} {c l : Nat → Int32} (p : post (nI (6 + e))) : wpX_topSlot post (nI (e + 1), c, l) := by
  unfold wpX_topSlot
  dsimp only
  rw [bs_top]
  exact p
theorem bx_sumL {post : Int32 → Prop} {d : Nat} {c l : Nat → Int32} (hd : d ≤ 4) (hl : bs_len l) (p : post (nI (bs_sum l (6 + d)))) : ∀ m s, s + m = 6 + d → wX_sumOfLengths_4 post (nI d) c l (m + 1) (nI (bs_sum l s)) (nI s) := by
  intro m
  induction m with
  | zero =>
    intro s h
    have e : s = 6 + d := h
    subst e
    exact br_t (nI_le (a := 6 + d) (b := 6 + d) (Nat.le_refl _) (by omega) |> fun z => (nI_add 6 d).symm ▸ z) p
  | succ m ih =>
    intro s h
    refine pk_le (6 + d) s (fun z => absurd z (by omega)) (fun _ => ⟨bs_in (by omega), ?_⟩) (nI_add 6 d)
    refine nm_r (e' := nI (bs_sum l (s + 1))) ?_ (nm_r (nI_1 s) (ih (s + 1) (by omega)))
    rw [bs_l hl (by omega), nI_add]
    rfl
theorem bx_sum {post : Int32 → Prop} {d : Nat} {c l : Nat → Int32} (hd : d ≤ 4) (hl : bs_len l) (p : post (nI (bs_sum l (6 + d)))) : wpX_sumOfLengths post (nI d, c, l) :=
  ⟨6 + d + 1, bx_sumL hd hl p (6 + d) 0 (by omega)⟩
theorem bx_room1 {post : Int32 → Prop} {d n : Nat} {c l : Nat → Int32} (hd : d ≤ 4) (hl : bs_len l) (h : bs_sum l (6 + d) + n ≤ 100) (p : post 1) : wpX_hasRoomFor post (nI d, c, l) (nI n) := by
  unfold wpX_hasRoomFor
  dsimp only
  exact bx_sum hd hl (pk_lt 100 (bs_sum l (6 + d) + n) (fun z => absurd z (by omega)) (fun _ => p) rfl (nI_add _ _))
theorem bx_room0 {post : Int32 → Prop} {d n : Nat} {c l : Nat → Int32} (hd : d ≤ 4) (hl : bs_len l) (hn : n ≤ 40) (h : 100 < bs_sum l (6 + d) + n) (p : post 0) : wpX_hasRoomFor post (nI d, c, l) (nI n) := by
  have b := bs_sum_le hl (6 + d) (by omega)
  unfold wpX_hasRoomFor
  dsimp only
  exact bx_sum hd hl (pk_lt 100 (bs_sum l (6 + d) + n) (fun _ => p) (fun z => absurd z (by omega)) rfl (nI_add _ _))
theorem bx_copyCells {post : SX → Prop} {x : Int32} {f t n : Nat} {c l : Nat → Int32} (hf : f < 1000) (ht : t < 1000) (hn : n ≤ 40) (h : ∀ i, i < n → f + i < 440 ∧ t + i < 440) (p : post (x, bs_cp f t c n, l)) : wpX_copyCells post (x, c, l) (nI f) (nI t) (nI n) := by
  refine loop_0 (fun m i s => wX_copyCells_3 post (nI f) (nI t) (nI n) x m (nI i) s l) (fun i s => s = bs_cp f t c i) n c rfl (fun m s hs => ?_) (fun m i s hi hs k => ?_)
  · subst hs
    exact br_t (nI_le (Nat.le_refl _) (by omega)) p
  · refine br_f (nI_ge hi (by omega)) ⟨pk_in (f + i) 440 (h i hi).1 (nI_add f i), pk_in (t + i) 440 (h i hi).2 (nI_add t i), ?_⟩
    refine nm_r (e' := bs_cp f t c (i + 1)) ?_ (nm_r (nI_1 i) (k _ rfl))
    subst hs
    rw [pk_cl (t + i) (nI_add t i), pk_cl (f + i) (nI_add f i)]
    rfl
theorem bx_copyString {post : SX → Prop} {x : Int32} {a b : Nat} {c l : Nat → Int32} (hl : bs_len l) (ha : a < 11) (hb : b < 11) (p : post (x, bs_cp (40 * a) (40 * b) c (bs_n l a), upd l b (nI (bs_n l a)))) : wpX_copyString post (x, c, l) (nI a) (nI b) := by
  have n40 := bs_n40 hl ha
  unfold wpX_copyString
  dsimp only
  rw [bs_40r, bs_40r, bs_l hl ha]
  refine ⟨bs_in ha, bx_copyCells (by omega) (by omega) n40 (fun i hi => by omega) ⟨bs_in ha, bs_in hb, nm_r ?_ p⟩⟩
  dsimp only
  rw [bs_l hl ha, nI_clamp (n := b) (by omega)]
theorem bx_put0 {post : Int32 → SX → Prop} {d a : Nat} {c l : Nat → Int32} (hd : d ≤ 4) (hl : bs_len l) (ha : a < 11) (h : 4 ≤ d ∨ 100 < bs_sum l (6 + d) + bs_n l a) (p : post (-2) (nI d, c, l)) : wpX_putCopyOf post (nI d, c, l) (nI a) := by
  have n40 := bs_n40 hl ha
  unfold wpX_putCopyOf
  dsimp only
  rw [bs_l hl ha]
  refine pk_le 4 d (fun _ => p) (fun z => ⟨bs_in ha, bx_room0 hd hl n40 ?_ (br_t rfl p)⟩)
  omega
theorem bx_put1 {post : Int32 → SX → Prop} {d a : Nat} {c l : Nat → Int32} (hd : d < 4) (hl : bs_len l) (ha : a < 11) (h : bs_sum l (6 + d) + bs_n l a ≤ 100) (p : post (nI (bs_n l a)) (nI (d + 1), bs_cp (40 * a) (40 * (6 + d)) c (bs_n l a), upd l (6 + d) (nI (bs_n l a)))) : wpX_putCopyOf post (nI d, c, l) (nI a) := by
  unfold wpX_putCopyOf
  dsimp only
  rw [bs_l hl ha]
  refine br_f (nI_ge (a := d) (b := 4) hd (by decide)) ⟨bs_in ha, bx_room1 (by omega) hl h (br_f bs_10 (nm_r (nI_1 d) (bx_top (bx_copyString hl ha (by omega) ⟨bs_in (by omega), ?_⟩))))⟩
  dsimp only
  rw [nI_clamp (n := 6 + d) (by omega), pk_us]
  exact p
theorem bx_count {post : Int32 → Prop} {x : Int32} {a st n : Nat} {c l : Nat → Int32} (hl : bs_len l) (ha : a < 11) (hs : st < 2 ^ 30) (hn : n < 2 ^ 31) (p : post (nI (min n (bs_n l a - st)))) : wpX_countFrom post (x, c, l) (nI a) (nI st) (nI n) := by
  have n40 := bs_n40 hl ha
  unfold wpX_countFrom
  dsimp only
  rw [bs_l hl ha]
  refine ⟨bs_in ha, ?_⟩
  by_cases h : st ≤ bs_n l a
  · refine nm_r (pk_sub h) (br_t (nI_pos' (by omega)) (pk_le (bs_n l a - st) n (fun z => ?_) (fun z => ?_)))
    · rw [Nat.min_eq_right z] at p
      exact p
    · rw [Nat.min_eq_left (by omega)] at p
      exact p
  · refine nm_e (br_f (Int32.not_le.mpr (pk_sneg hs (by omega))) ?_)
    have e : min n (bs_n l a - st) = 0 := by omega
    rw [e] at p
    exact p
theorem bx_keep {post : Int32 → SX → Prop} {e st n : Nat} {c l : Nat → Int32} (he : e < 4) (hl : bs_len l) (hs : st < 600) (hn : n < 2 ^ 31) (p : post (nI (min n (bs_n l (6 + e) - st))) (nI (e + 1), bs_cp (40 * (6 + e) + st) (40 * (6 + e)) c (min n (bs_n l (6 + e) - st)), upd l (6 + e) (nI (min n (bs_n l (6 + e) - st))))) : wpX_keepOfTop post (nI (e + 1), c, l) (nI st) (nI n) := by
  have n40 := bs_n40 hl (j := 6 + e) (by omega)
  unfold wpX_keepOfTop
  dsimp only
  refine bx_top (bx_count hl (by omega) (by omega) hn ?_)
  rw [bs_40r, nI_add]
  refine bx_copyCells (by omega) (by omega) (by omega) (fun i hi => by omega) ⟨bs_in (by omega), nm_r ?_ p⟩
  dsimp only
  rw [nI_clamp (n := 6 + e) (by omega)]
end
section
/-! the class's own methods, the second half -/
theorem by_fin {post : Int32 → Prop} {x : Int32} {a b : Nat} {c l : Nat → Int32} (hl : bs_len l) (ha : a < 11) (hb : b < 11) (p : post (bs_z (bs_n l a) (bs_n l b))) : wY_order_84 post (nI a) (nI b) x c l := by
  have n1 := bs_n40 hl ha
  have n2 := bs_n40 hl hb
  unfold wY_order_84
  rw [bs_l hl ha, bs_l hl hb]
  refine ⟨bs_in ha, bs_in hb, pk_eq (bs_n l a) (bs_n l b) (fun z => ?_) (fun z => ⟨bs_in ha, bs_in hb, pk_le (bs_n l b) (bs_n l a) (fun y => ?_) (fun y => ?_)⟩)⟩
  · have e : bs_z (bs_n l a) (bs_n l b) = 0 := if_pos z
    rw [e] at p
    exact p
  · have e : bs_z (bs_n l a) (bs_n l b) = 2 := (if_neg z).trans (if_pos y)
    rw [e] at p
    exact p
  · have e : bs_z (bs_n l a) (bs_n l b) = 1 := (if_neg z).trans (if_neg (by omega))
    rw [e] at p
    exact p
theorem bs_ordE {c : Nat → Int32} {p q : Nat} {z : Int32} {m k : Nat} (h : c (p + k) = c (q + k)) : bs_ord c p q z (m + 1) k = bs_ord c p q z m (k + 1) := if_pos h
theorem bs_ord2 {c : Nat → Int32} {p q : Nat} {z : Int32} {m k : Nat} (h : ¬ c (p + k) = c (q + k)) (h2 : c (q + k) ≤ c (p + k)) : bs_ord c p q z (m + 1) k = 2 := (if_neg h).trans (if_pos h2)
theorem bs_ord1 {c : Nat → Int32} {p q : Nat} {z : Int32} {m k : Nat} (h : ¬ c (p + k) = c (q + k)) (h2 : ¬ c (q + k) ≤ c (p + k)) : bs_ord c p q z (m + 1) k = 1 := (if_neg h).trans (if_neg h2)
theorem bx_ordL {post : Int32 → Prop} {x : Int32} {a b n : Nat} {c l : Nat → Int32} (hl : bs_len l) (ha : a < 11) (hb : b < 11) (hn : n ≤ 40) : ∀ m k, k + m = n → post (bs_ord c (40 * a) (40 * b) (bs_z (bs_n l a) (bs_n l b)) m k) → wX_orderOf_16 post (nI a) (nI b) (nI n) x c l (m + 1) (nI k) := by
  intro m
  induction m with
  | zero =>
    intro k h p
    exact pk_le n k (fun _ => by_fin (x := x) (c := c) hl ha hb p) (fun z => absurd z (by omega))
  | succ m ih =>
    intro k h p
    have e1 : nI a * 40 + nI k = nI (40 * a + k) := by rw [bs_40r, nI_add]
    have e2 : nI b * 40 + nI k = nI (40 * b + k) := by rw [bs_40r, nI_add]
    refine pk_le n k (fun z => absurd z (by omega)) (fun _ => ⟨pk_in (40 * a + k) 440 (by omega) e1, nm_r (e' := c (40 * a + k)) (by rw [pk_cl (40 * a + k) e1]) ⟨pk_in (40 * b + k) 440 (by omega) e2, nm_r (e' := c (40 * b + k)) (by rw [pk_cl (40 * b + k) e2]) ?_⟩⟩)
    by_cases z : c (40 * a + k) = c (40 * b + k)
    · refine br_t z (nm_r (nI_1 k) (ih (k + 1) (by omega) ?_))
      rw [bs_ordE z] at p
      exact p
    · by_cases y : c (40 * b + k) ≤ c (40 * a + k)
      · rw [bs_ord2 z y] at p
        exact br_f z (br_t y p)
      · rw [bs_ord1 z y] at p
        exact br_f z (br_f y p)
theorem bx_ord {post : Int32 → Prop} {x : Int32} {a b : Nat} {c l : Nat → Int32} (hl : bs_len l) (ha : a < 11) (hb : b < 11) (p : post (bs_ord c (40 * a) (40 * b) (bs_z (bs_n l a) (bs_n l b)) (min (bs_n l b) (bs_n l a)) 0)) : wpX_orderOf post (x, c, l) (nI a) (nI b) := by
  have n1 := bs_n40 hl ha
  have n2 := bs_n40 hl hb
  unfold wpX_orderOf
  dsimp only
  rw [bs_l hl hb]
  exact ⟨bs_in hb, bx_count (st := 0) hl ha (by omega) (by omega) ⟨_, bx_ordL hl ha hb (n := min (bs_n l b) (bs_n l a - 0)) (by omega) (min (bs_n l b) (bs_n l a)) 0 (by omega) p⟩⟩
theorem bx_begL {post : Int32 → Prop} {x : Int32} {u v s : Nat} {c l : Nat → Int32} (hl : bs_len l) (hu : u < 11) (hv : v < 11) (hs : s + bs_n l v ≤ bs_n l u) : ∀ m k, k + m = bs_n l v → post (bs_bg c (40 * u + s) (40 * v) m k) → wX_beginsAt_22 post (nI u) (nI s) (nI v) x c l (m + 1) (nI k) := by
  have n40 := bs_n40 hl hu
  intro m
  induction m with
  | zero =>
    intro k h p
    exact And.intro (bs_in hv) (pk_le (bs_n l v) k (fun _ => p) (fun z => absurd z (by omega)) (bs_l hl hv))
  | succ m ih =>
    intro k h p
    have e1 : nI u * 40 + nI s + nI k = nI (40 * u + s + k) := by rw [bs_40r, nI_add, nI_add]
    have e2 : nI v * 40 + nI k = nI (40 * v + k) := by rw [bs_40r, nI_add]
    refine And.intro (bs_in hv) (pk_le (bs_n l v) k (fun z => absurd z (by omega)) (fun _ => ⟨pk_in (40 * u + s + k) 440 (by omega) e1, pk_in (40 * v + k) 440 (by omega) e2, ?_⟩) (bs_l hl hv))
    rw [pk_cl (40 * u + s + k) e1, pk_cl (40 * v + k) e2]
    by_cases z : c (40 * u + s + k) = c (40 * v + k)
    · refine br_t z (nm_r (nI_1 k) (ih (k + 1) (by omega) ?_))
      have e : bs_bg c (40 * u + s) (40 * v) (m + 1) k = bs_bg c (40 * u + s) (40 * v) m (k + 1) := if_pos z
      rw [e] at p
      exact p
    · refine br_f z ?_
      have e : bs_bg c (40 * u + s) (40 * v) (m + 1) k = 0 := if_neg z
      rw [e] at p
      exact p
theorem bx_beg {post : Int32 → Prop} {x : Int32} {u v s : Nat} {c l : Nat → Int32} (hl : bs_len l) (hu : u < 11) (hv : v < 11) (hs : s ≤ 40) (p : post (bs_beg c l u v s)) : wpX_beginsAt post (x, c, l) (nI u) (nI s) (nI v) := by
  have n1 := bs_n40 hl hu
  have n2 := bs_n40 hl hv
  unfold wpX_beginsAt
  dsimp only
  rw [bs_l hl hu, bs_l hl hv]
  refine ⟨bs_in hv, bs_in hu, pk_le (s + bs_n l v) (bs_n l u) (fun z => ?_) (fun z => ?_) (nI_add _ _)⟩
  · have e : bs_beg c l u v s = bs_bg c (40 * u + s) (40 * v) (bs_n l v) 0 := if_neg (by omega)
    rw [e] at p
    exact ⟨_, bx_begL hl hu hv z (bs_n l v) 0 (by omega) p⟩
  · have e : bs_beg c l u v s = 0 := if_pos z
    rw [e] at p
    exact p
theorem bx_fdL {post : Int32 → Prop} {x : Int32} {u v : Nat} {c l : Nat → Int32} (hl : bs_len l) (hu : u < 11) (hv : v < 11) : ∀ m s, s + m = bs_n l u → post (bs_fd c l u v m s) → wX_find_18 post (nI u) (nI v) x c l (m + 1) (nI s) := by
  have n40 := bs_n40 hl hu
  intro m
  induction m with
  | zero =>
    intro s h p
    exact And.intro (bs_in hu) (pk_le (bs_n l u) s (fun _ => p) (fun z => absurd z (by omega)) (bs_l hl hu))
  | succ m ih =>
    intro s h p
    refine And.intro (bs_in hu) (pk_le (bs_n l u) s (fun z => absurd z (by omega)) (fun _ => bx_beg hl hu hv (by omega) ?_) (bs_l hl hu))
    by_cases z : bs_beg c l u v s = 0
    · refine br_t z (nm_r (nI_1 s) (ih (s + 1) (by omega) ?_))
      have e : bs_fd c l u v (m + 1) s = bs_fd c l u v m (s + 1) := if_pos z
      rw [e] at p
      exact p
    · refine br_f z ?_
      have e : bs_fd c l u v (m + 1) s = nI (s + 1) := if_neg z
      rw [e] at p
      rw [nI_1]
      exact p
theorem bx_char0 {post : Int32 → Prop} {x i : Int32} {a : Nat} {c l : Nat → Int32} (hi : i < 1) (p : post 0) : wpX_characterOf post (x, c, l) (nI a) i := br_t hi p
theorem bx_char {post : Int32 → Prop} {x : Int32} {a j : Nat} {c l : Nat → Int32} (hl : bs_len l) (ha : a < 11) (hj : j + 1 < 2 ^ 31) (p1 : j + 1 ≤ bs_n l a → post (c (40 * a + j))) (p0 : bs_n l a < j + 1 → post 0) : wpX_characterOf post (x, c, l) (nI a) (nI (j + 1)) := by
  have n1 := bs_n40 hl ha
  have e : nI a * 40 + nI (j + 1) - 1 = nI (40 * a + j) := by
    rw [bs_40r, nI_add]
    exact nI_pred (40 * a + j)
  unfold wpX_characterOf
  dsimp only
  rw [bs_l hl ha]
  refine br_f (nI_nlt (a := j + 1) (b := 1) (by omega) hj) ⟨bs_in ha, pk_le (j + 1) (bs_n l a) (fun z => ⟨pk_in (40 * a + j) 440 (by omega) e, ?_⟩) p0⟩
  rw [pk_cl (40 * a + j) e]
  exact p1 z
theorem bx_rep {post : Int32 → SX → Prop} {x y : Int32} {t n : Nat} {c l : Nat → Int32} (ht : t < 11) (hn : n ≤ 40) (p : post (nI n) (x, bs_fl (40 * t) y c n, upd l t (nI n))) : ∃ m, wX_repeat_65 post (nI n) y (nI t) x m 0 c l := by
  refine loop_0 (fun m i s => wX_repeat_65 post (nI n) y (nI t) x m (nI i) s l) (fun i s => s = bs_fl (40 * t) y c i) n c rfl (fun m s hs => ?_) (fun m i s hi hs k => ?_)
  · subst hs
    refine br_t (nI_le (Nat.le_refl _) (by omega)) ⟨bs_in ht, nm_r ?_ p⟩
    rw [nI_clamp (n := t) (by omega)]
  · have e : nI t * 40 + nI i = nI (40 * t + i) := by rw [bs_40r, nI_add]
    refine br_f (nI_ge hi (by omega)) ⟨pk_in (40 * t + i) 440 (by omega) e, nm_r (e' := bs_fl (40 * t) y c (i + 1)) ?_ (nm_r (nI_1 i) (k _ rfl))⟩
    subst hs
    rw [pk_cl (40 * t + i) e]
    rfl
theorem bx_swap {post : Int32 → SX → Prop} {x : Int32} {u v : Nat} {c l : Nat → Int32} (hl : bs_len l) (hu : u < 11) (hv : v < 11) (p : post 0 (x, bs_sw (40 * u) (40 * v) c 40, upd (upd l u (nI (bs_n l v))) v (nI (bs_n l u)))) : ∃ m, wX_swap_18 post (nI u) (nI v) x m 0 c l := by
  refine loop_0 (fun m i s => wX_swap_18 post (nI u) (nI v) x m (nI i) s l) (fun i s => s = bs_sw (40 * u) (40 * v) c i) 40 c rfl (fun m s hs => ?_) (fun m i s hi hs k => ?_)
  · subst hs
    refine br_t (nI_le (a := 40) (b := 40) (Nat.le_refl _) (by omega)) ⟨bs_in hu, nm_r (bs_l hl hu) ⟨bs_in hv, bs_in hu, nm_r (e' := upd l u (nI (bs_n l v))) ?_ ⟨bs_in hv, nm_r ?_ p⟩⟩⟩
    · rw [bs_l hl hv, nI_clamp (n := u) (by omega)]
    · rw [nI_clamp (n := v) (by omega)]
  · have e1 : nI u * 40 + nI i = nI (40 * u + i) := by rw [bs_40r, nI_add]
    have e2 : nI v * 40 + nI i = nI (40 * v + i) := by rw [bs_40r, nI_add]
    have i1 : vp_in (nI u * 40 + nI i) 440 := pk_in (40 * u + i) 440 (by omega) e1
    have i2 : vp_in (nI v * 40 + nI i) 440 := pk_in (40 * v + i) 440 (by omega) e2
    refine br_f (nI_ge (a := i) (b := 40) hi (by omega)) ⟨i1, nm_e ⟨i2, i1, nm_e ⟨i2, nm_r (e' := bs_sw (40 * u) (40 * v) c (i + 1)) ?_ (nm_r (nI_1 i) (k _ rfl))⟩⟩⟩
    subst hs
    rw [pk_cl (40 * u + i) e1, pk_cl (40 * v + i) e2]
    rfl
end
section
/-! the reference's own methods, each with a general post -/
theorem by_S1 {post : Int32 → Prop} {x y : Int32} {c l : Nat → Int32} (h : bs_B 255 x) (p : post 1) : wpY_isSmall post (y, c, l) x := by
  obtain ⟨j, hj, rfl⟩ := h
  exact br_f (nI_pos (by omega)) (br_f (nI_nlt (a := 255) (b := j) hj (by decide)) p)
theorem by_S0 {post : Int32 → Prop} {x y : Int32} {c l : Nat → Int32} (h : ¬ bs_B 255 x) (p : post 0) : wpY_isSmall post (y, c, l) x := by
  by_cases a : x < 0
  · exact br_t a p
  · obtain ⟨j, hj, rfl⟩ := nI_of a
    have hn : ¬ j ≤ 255 := fun z => h ⟨j, z, rfl⟩
    exact br_f a (br_t (nI_lt (a := 255) (b := j) (by omega) hj) p)
theorem by_V1 {post : Int32 → Prop} {x y : Int32} {c l : Nat → Int32} (h : bs_B 5 x) (p : post 1) : wpY_isVariable post (y, c, l) x := by
  obtain ⟨j, hj, rfl⟩ := h
  exact br_f (nI_pos (by omega)) (br_f (nI_nlt (a := 5) (b := j) hj (by decide)) p)
theorem by_V0 {post : Int32 → Prop} {x y : Int32} {c l : Nat → Int32} (h : ¬ bs_B 5 x) (p : post 0) : wpY_isVariable post (y, c, l) x := by
  by_cases a : x < 0
  · exact br_t a p
  · obtain ⟨j, hj, rfl⟩ := nI_of a
    have hn : ¬ j ≤ 5 := fun z => h ⟨j, z, rfl⟩
    exact br_f a (br_t (nI_lt (a := 5) (b := j) (by omega) hj) p)
theorem by_usedL {post : Int32 → Prop} {d : Nat} {c l : Nat → Int32} (hd : d ≤ 4) (hl : bs_len l) (p : post (nI (bs_sum l (6 + d)))) : ∀ m s, s + m = 6 + d → wY_used_4 post (nI d) c l (m + 1) (nI (bs_sum l s)) (nI s) := by
  intro m
  induction m with
  | zero =>
    intro s h
    have e : s = 6 + d := h
    subst e
    exact br_t (nI_le (a := 6 + d) (b := 6 + d) (Nat.le_refl _) (by omega) |> fun z => (nI_add 6 d).symm ▸ z) p
  | succ m ih =>
    intro s h
    refine pk_le (6 + d) s (fun z => absurd z (by omega)) (fun _ => ⟨bs_in (by omega), ?_⟩) (nI_add 6 d)
    refine nm_r (e' := nI (bs_sum l (s + 1))) ?_ (nm_r (nI_1 s) (ih (s + 1) (by omega)))
    rw [bs_l hl (by omega), nI_add]
    rfl
theorem by_used {post : Int32 → Prop} {d : Nat} {c l : Nat → Int32} (hd : d ≤ 4) (hl : bs_len l) (p : post (nI (bs_sum l (6 + d)))) : wpY_used post (nI d, c, l) :=
  ⟨6 + d + 1, by_usedL hd hl p (6 + d) 0 (by omega)⟩
theorem by_copy {post : SY → Prop} {x : Int32} {a b : Nat} {c l : Nat → Int32} (hl : bs_len l) (ha : a < 11) (hb : b < 11) (p : post (x, bs_cp (40 * a) (40 * b) c (bs_n l a), upd l b (nI (bs_n l a)))) : wpY_copy post (x, c, l) (nI a) (nI b) := by
  have n40 := bs_n40 hl ha
  refine loop_0 (fun m i s => wY_copy_2 post (nI a) (nI b) x m (nI i) s l) (fun i s => s = bs_cp (40 * a) (40 * b) c i) (bs_n l a) c rfl (fun m s hs => ?_) (fun m i s hi hs k => ?_)
  · subst hs
    refine And.intro (bs_in ha) (pk_le (bs_n l a) (bs_n l a) (fun _ => ⟨bs_in ha, bs_in hb, nm_r ?_ p⟩) (fun z => absurd z (by omega)) (bs_l hl ha))
    rw [bs_l hl ha, nI_clamp (n := b) (by omega)]
  · have e1 : 40 * nI a + nI i = nI (40 * a + i) := by rw [bs_40l, nI_add]
    have e2 : 40 * nI b + nI i = nI (40 * b + i) := by rw [bs_40l, nI_add]
    refine And.intro (bs_in ha) (pk_le (bs_n l a) i (fun z => absurd z (by omega)) (fun _ => ⟨pk_in (40 * a + i) 440 (by omega) e1, pk_in (40 * b + i) 440 (by omega) e2, nm_r (e' := bs_cp (40 * a) (40 * b) c (i + 1)) ?_ (nm_r (nI_1 i) (k _ rfl))⟩) (bs_l hl ha))
    subst hs
    rw [pk_cl (40 * a + i) e1, pk_cl (40 * b + i) e2]
    rfl
theorem by_put0 {post : Int32 → SY → Prop} {d a : Nat} {c l : Nat → Int32} (hd : d ≤ 4) (hl : bs_len l) (ha : a < 11) (h : 4 ≤ d ∨ 100 < bs_sum l (6 + d) + bs_n l a) (p : post (-2) (nI d, c, l)) : wpY_pushCopy post (nI d, c, l) (nI a) := by
  have n40 := bs_n40 hl ha
  have b := bs_sum_le hl (6 + d) (by omega)
  unfold wpY_pushCopy
  dsimp only
  rw [bs_l hl ha]
  exact pk_eq d 4 (fun _ => p) (fun z => by_used hd hl ⟨bs_in ha, pk_le (bs_sum l (6 + d) + bs_n l a) 100 (fun y => absurd y (by omega)) (fun _ => p) (nI_add _ _)⟩)
theorem by_put1 {post : Int32 → SY → Prop} {d a : Nat} {c l : Nat → Int32} (hd : d < 4) (hl : bs_len l) (ha : a < 11) (hn : a ≠ 6 + d) (h : bs_sum l (6 + d) + bs_n l a ≤ 100) (p : post (nI (bs_n l a)) (nI (d + 1), bs_cp (40 * a) (40 * (6 + d)) c (bs_n l a), upd l (6 + d) (nI (bs_n l a)))) : wpY_pushCopy post (nI d, c, l) (nI a) := by
  unfold wpY_pushCopy
  dsimp only
  rw [bs_l hl ha, show (6 : Int32) + nI d = nI (6 + d) from nI_add 6 d]
  refine pk_eq d 4 (fun z => absurd z (by omega)) (fun _ => by_used (by omega) hl ⟨bs_in ha, pk_le (bs_sum l (6 + d) + bs_n l a) 100 (fun _ => by_copy hl ha (by omega) (nm_r (nI_1 d) ⟨bs_in ha, ?_⟩)) (fun z => absurd z (by omega)) (nI_add _ _)⟩)
  dsimp only
  rw [nI_clamp (n := a) (by omega), pk_un hn, bs_nE hl ha]
  exact p
theorem by_cutL {post : Int32 → SY → Prop} {x : Int32} {t st k : Nat} {c l : Nat → Int32} (ht : t < 11) (hk : k ≤ 40) (h : ∀ i, i < k → st + i < 40) (p : post (nI k) (x, bs_cp (40 * t + st) (40 * t) c k, upd l t (nI k))) : ∃ m, wY_cut_43 post (nI st) (nI t) (nI k) x m 0 c l := by
  refine loop_0 (fun m i s => wY_cut_43 post (nI st) (nI t) (nI k) x m (nI i) s l) (fun i s => s = bs_cp (40 * t + st) (40 * t) c i) k c rfl (fun m s hs => ?_) (fun m i s hi hs g => ?_)
  · subst hs
    refine br_t (nI_le (Nat.le_refl _) (by omega)) ⟨bs_in ht, nm_r ?_ p⟩
    rw [nI_clamp (n := t) (by omega)]
  · have hi2 := h i hi
    have e1 : 40 * nI t + nI st + nI i = nI (40 * t + st + i) := by rw [bs_40l, nI_add, nI_add]
    have e2 : 40 * nI t + nI i = nI (40 * t + i) := by rw [bs_40l, nI_add]
    refine br_f (nI_ge hi (by omega)) ⟨pk_in (40 * t + st + i) 440 (by omega) e1, pk_in (40 * t + i) 440 (by omega) e2, nm_r (e' := bs_cp (40 * t + st) (40 * t) c (i + 1)) ?_ (nm_r (nI_1 i) (g _ rfl))⟩
    subst hs
    rw [pk_cl (40 * t + st + i) e1, pk_cl (40 * t + i) e2]
    rfl
theorem by_cut {post : Int32 → SY → Prop} {e st n : Nat} {c l : Nat → Int32} (he : e < 4) (hl : bs_len l) (hs : st < 600) (hn : n < 2 ^ 31) (p : post (nI (min n (bs_n l (6 + e) - st))) (nI (e + 1), bs_cp (40 * (6 + e) + st) (40 * (6 + e)) c (min n (bs_n l (6 + e) - st)), upd l (6 + e) (nI (min n (bs_n l (6 + e) - st))))) : wpY_cut post (nI (e + 1), c, l) (nI st) (nI n) := by
  have n40 := bs_n40 hl (j := 6 + e) (by omega)
  unfold wpY_cut
  dsimp only
  refine nm_r (bs_top5 e) ⟨bs_in (by omega), ?_⟩
  rw [bs_l hl (by omega)]
  by_cases h : st ≤ bs_n l (6 + e)
  · refine nm_r (pk_sub h) (br_t (nI_pos' (by omega)) (pk_le n (bs_n l (6 + e) - st) (fun z => ?_) (fun z => ?_)))
    · rw [Nat.min_eq_left z] at p
      exact by_cutL (by omega) (by omega) (fun i hi => by omega) p
    · rw [Nat.min_eq_right (by omega)] at p
      exact by_cutL (by omega) (by omega) (fun i hi => by omega) p
  · refine nm_e (br_f (Int32.not_le.mpr (pk_sneg (by omega) (by omega))) ?_)
    have e0 : min n (bs_n l (6 + e) - st) = 0 := by omega
    rw [e0] at p
    exact by_cutL (k := 0) (by omega) (by omega) (fun i hi => by omega) p
theorem by_joinL {post : Int32 → SY → Prop} {e t y : Nat} {c l : Nat → Int32} (hl : bs_len l) (ht : t < 11) (hy : y < 11) (h40 : bs_n l t + bs_n l y ≤ 40) (p : post (nI (bs_n l t + bs_n l y)) (nI e, bs_cp (40 * y) (40 * t + bs_n l t) c (bs_n l y), upd l t (nI (bs_n l t + bs_n l y)))) : ∃ m, wY_join_48 post (nI y) (nI t) (nI (bs_n l t + bs_n l y)) (nI (e + 1)) m 0 c l := by
  refine loop_0 (fun m i s => wY_join_48 post (nI y) (nI t) (nI (bs_n l t + bs_n l y)) (nI (e + 1)) m (nI i) s l) (fun i s => s = bs_cp (40 * y) (40 * t + bs_n l t) c i) (bs_n l y) c rfl (fun m s hs => ?_) (fun m i s hi hs g => ?_)
  · subst hs
    refine And.intro (bs_in hy) (pk_le (bs_n l y) (bs_n l y) (fun _ => ⟨bs_in ht, nm_r ?_ (nm_r (nI_pred e) p)⟩) (fun z => absurd z (by omega)) (bs_l hl hy))
    rw [nI_clamp (n := t) (by omega)]
  · have e1 : 40 * nI y + nI i = nI (40 * y + i) := by rw [bs_40l, nI_add]
    have e2 : 40 * nI t + l (nI t).toNatClampNeg + nI i = nI (40 * t + bs_n l t + i) := by rw [bs_l hl ht, bs_40l, nI_add, nI_add]
    refine And.intro (bs_in hy) (pk_le (bs_n l y) i (fun z => absurd z (by omega)) (fun _ => ⟨bs_in ht, pk_in (40 * y + i) 440 (by omega) e1, pk_in (40 * t + bs_n l t + i) 440 (by omega) e2, nm_r (e' := bs_cp (40 * y) (40 * t + bs_n l t) c (i + 1)) ?_ (nm_r (nI_1 i) (g _ rfl))⟩) (bs_l hl hy))
    subst hs
    rw [pk_cl (40 * y + i) e1, pk_cl (40 * t + bs_n l t + i) e2]
    rfl
theorem by_rep {post : Int32 → SY → Prop} {y : Int32} {d t n : Nat} {c l : Nat → Int32} (ht : t < 11) (hn : n ≤ 40) (p : post (nI n) (nI (d + 1), bs_fl (40 * t) y c n, upd l t (nI n))) : ∃ m, wY_repeat_63 post (nI n) y (nI t) (nI d) m 0 c l := by
  refine loop_0 (fun m i s => wY_repeat_63 post (nI n) y (nI t) (nI d) m (nI i) s l) (fun i s => s = bs_fl (40 * t) y c i) n c rfl (fun m s hs => ?_) (fun m i s hi hs k => ?_)
  · subst hs
    refine br_t (nI_le (Nat.le_refl _) (by omega)) ⟨bs_in ht, nm_r ?_ (nm_r (nI_1 d) p)⟩
    rw [nI_clamp (n := t) (by omega)]
  · have e : 40 * nI t + nI i = nI (40 * t + i) := by rw [bs_40l, nI_add]
    refine br_f (nI_ge hi (by omega)) ⟨pk_in (40 * t + i) 440 (by omega) e, nm_r (e' := bs_fl (40 * t) y c (i + 1)) ?_ (nm_r (nI_1 i) (k _ rfl))⟩
    subst hs
    rw [pk_cl (40 * t + i) e]
    rfl
theorem by_ordL {post : Int32 → Prop} {x : Int32} {a b : Nat} {c l : Nat → Int32} (hl : bs_len l) (ha : a < 11) (hb : b < 11) : ∀ m k, k + m = min (bs_n l b) (bs_n l a) → post (bs_ord c (40 * a) (40 * b) (bs_z (bs_n l a) (bs_n l b)) m k) → wY_order_2 post (nI a) (nI b) x c l (m + 1) (nI k) := by
  have n1 := bs_n40 hl ha
  have n2 := bs_n40 hl hb
  intro m
  induction m with
  | zero =>
    intro k h p
    exact And.intro (bs_in ha) (pk_le (bs_n l a) k (fun _ => by_fin hl ha hb p) (fun _ => ⟨bs_in hb, pk_le (bs_n l b) k (fun _ => by_fin hl ha hb p) (fun z => absurd z (by omega)) (bs_l hl hb)⟩) (bs_l hl ha))
  | succ m ih =>
    intro k h p
    have e1 : 40 * nI a + nI k = nI (40 * a + k) := by rw [bs_40l, nI_add]
    have e2 : 40 * nI b + nI k = nI (40 * b + k) := by rw [bs_40l, nI_add]
    have i1 : vp_in (40 * nI a + nI k) 440 := pk_in (40 * a + k) 440 (by omega) e1
    have i2 : vp_in (40 * nI b + nI k) 440 := pk_in (40 * b + k) 440 (by omega) e2
    refine And.intro (bs_in ha) (pk_le (bs_n l a) k (fun z => absurd z (by omega)) (fun _ => ⟨bs_in hb, pk_le (bs_n l b) k (fun z => absurd z (by omega)) (fun _ => ⟨i1, i2, ?_⟩) (bs_l hl hb)⟩) (bs_l hl ha))
    rw [pk_cl (40 * a + k) e1, pk_cl (40 * b + k) e2]
    by_cases z : c (40 * a + k) = c (40 * b + k)
    · refine br_t z (nm_r (nI_1 k) (ih (k + 1) (by omega) ?_))
      rw [bs_ordE z] at p
      exact p
    · by_cases y : c (40 * b + k) ≤ c (40 * a + k)
      · rw [bs_ord2 z y] at p
        exact br_f z ⟨i1, i2, br_t y p⟩
      · rw [bs_ord1 z y] at p
        exact br_f z ⟨i1, i2, br_f y p⟩
theorem by_ord {post : Int32 → Prop} {x : Int32} {a b : Nat} {c l : Nat → Int32} (hl : bs_len l) (ha : a < 11) (hb : b < 11) (p : post (bs_ord c (40 * a) (40 * b) (bs_z (bs_n l a) (bs_n l b)) (min (bs_n l b) (bs_n l a)) 0)) : wpY_order post (x, c, l) (nI a) (nI b) :=
  ⟨_, by_ordL hl ha hb (min (bs_n l b) (bs_n l a)) 0 (by omega) p⟩
theorem by_begL {post : Int32 → Prop} {x : Int32} {u v s : Nat} {c l : Nat → Int32} (hl : bs_len l) (hu : u < 11) (hv : v < 11) (hs : s + bs_n l v ≤ bs_n l u) : ∀ m k, k + m = bs_n l v → post (bs_bg c (40 * u + s) (40 * v) m k) → wY_begins_22 post (nI u) (nI s) (nI v) x c l (m + 1) (nI k) := by
  have n40 := bs_n40 hl hu
  intro m
  induction m with
  | zero =>
    intro k h p
    exact And.intro (bs_in hv) (pk_le (bs_n l v) k (fun _ => p) (fun z => absurd z (by omega)) (bs_l hl hv))
  | succ m ih =>
    intro k h p
    have e1 : 40 * nI u + nI s + nI k = nI (40 * u + s + k) := by rw [bs_40l, nI_add, nI_add]
    have e2 : 40 * nI v + nI k = nI (40 * v + k) := by rw [bs_40l, nI_add]
    refine And.intro (bs_in hv) (pk_le (bs_n l v) k (fun z => absurd z (by omega)) (fun _ => ⟨pk_in (40 * u + s + k) 440 (by omega) e1, pk_in (40 * v + k) 440 (by omega) e2, ?_⟩) (bs_l hl hv))
    rw [pk_cl (40 * u + s + k) e1, pk_cl (40 * v + k) e2]
    by_cases z : c (40 * u + s + k) = c (40 * v + k)
    · refine br_t z (nm_r (nI_1 k) (ih (k + 1) (by omega) ?_))
      have e : bs_bg c (40 * u + s) (40 * v) (m + 1) k = bs_bg c (40 * u + s) (40 * v) m (k + 1) := if_pos z
      rw [e] at p
      exact p
    · refine br_f z ?_
      have e : bs_bg c (40 * u + s) (40 * v) (m + 1) k = 0 := if_neg z
      rw [e] at p
      exact p
theorem by_beg {post : Int32 → Prop} {x : Int32} {u v s : Nat} {c l : Nat → Int32} (hl : bs_len l) (hu : u < 11) (hv : v < 11) (hs : s ≤ 40) (p : post (bs_beg c l u v s)) : wpY_begins post (x, c, l) (nI u) (nI s) (nI v) := by
  have n1 := bs_n40 hl hu
  have n2 := bs_n40 hl hv
  unfold wpY_begins
  dsimp only
  rw [bs_l hl hu, bs_l hl hv]
  refine ⟨bs_in hv, bs_in hu, pk_le (s + bs_n l v) (bs_n l u) (fun z => ?_) (fun z => ?_) (nI_add _ _)⟩
  · have e : bs_beg c l u v s = bs_bg c (40 * u + s) (40 * v) (bs_n l v) 0 := if_neg (by omega)
    rw [e] at p
    exact ⟨_, by_begL hl hu hv z (bs_n l v) 0 (by omega) p⟩
  · have e : bs_beg c l u v s = 0 := if_pos z
    rw [e] at p
    exact p
theorem by_fdL {post : Int32 → Prop} {x : Int32} {u v : Nat} {c l : Nat → Int32} (hl : bs_len l) (hu : u < 11) (hv : v < 11) : ∀ m s, s + m = bs_n l u → post (bs_fd c l u v m s) → wY_find_20 post (nI u) (nI v) x c l (m + 1) (nI s) := by
  have n40 := bs_n40 hl hu
  intro m
  induction m with
  | zero =>
    intro s h p
    exact And.intro (bs_in hu) (pk_le (bs_n l u) s (fun _ => p) (fun z => absurd z (by omega)) (bs_l hl hu))
  | succ m ih =>
    intro s h p
    refine And.intro (bs_in hu) (pk_le (bs_n l u) s (fun z => absurd z (by omega)) (fun _ => by_beg hl hu hv (by omega) ?_) (bs_l hl hu))
    by_cases z : bs_beg c l u v s = 0
    · refine br_t z (nm_r (nI_1 s) (ih (s + 1) (by omega) ?_))
      have e : bs_fd c l u v (m + 1) s = bs_fd c l u v m (s + 1) := if_pos z
      rw [e] at p
      exact p
    · refine br_f z ?_
      have e : bs_fd c l u v (m + 1) s = nI (s + 1) := if_neg z
      rw [e] at p
      rw [nI_1]
      exact p
theorem by_setL {post : Int32 → SY → Prop} {e t v j : Nat} {c l : Nat → Int32} (hl : bs_len l) (ht : t < 11) (hv : v < 11) (hj : j ≤ 254) (p : post (nI (min (bs_n l t) (bs_n l v - j))) (nI e, bs_cp (40 * t) (40 * v + j) c (min (bs_n l t) (bs_n l v - j)), l)) : ∃ m, wY_setMid_45 post (nI v) (nI (j + 1)) (nI t) (nI (e + 1)) m 0 0 c l := by
  have n1 := bs_n40 hl ht
  have n2 := bs_n40 hl hv
  refine loop_0 (fun m i s => wY_setMid_45 post (nI v) (nI (j + 1)) (nI t) (nI (e + 1)) m (nI i) (nI i) s l) (fun i s => s = bs_cp (40 * t) (40 * v + j) c i) (min (bs_n l t) (bs_n l v - j)) c rfl (fun m s hs => ?_) (fun m i s hi hs g => ?_)
  · subst hs
    have e1 : nI (j + 1) - 1 + nI (min (bs_n l t) (bs_n l v - j)) = nI (j + min (bs_n l t) (bs_n l v - j)) := by rw [nI_pred, nI_add]
    exact And.intro (bs_in ht) (pk_le (bs_n l t) (min (bs_n l t) (bs_n l v - j)) (fun _ => nm_r (nI_pred e) p) (fun _ => ⟨bs_in hv, pk_le (bs_n l v) (j + min (bs_n l t) (bs_n l v - j)) (fun _ => nm_r (nI_pred e) p) (fun z => absurd z (by omega)) (bs_l hl hv) e1⟩) (bs_l hl ht))
  · have e1 : nI (j + 1) - 1 + nI i = nI (j + i) := by rw [nI_pred, nI_add]
    have e2 : 40 * nI t + nI i = nI (40 * t + i) := by rw [bs_40l, nI_add]
    have e3 : 40 * nI v + nI (j + 1) - 1 + nI i = nI (40 * v + j + i) := by
      rw [bs_40l, nI_add, show nI (40 * v + (j + 1)) - 1 = nI (40 * v + j) from nI_pred (40 * v + j), nI_add]
    refine And.intro (bs_in ht) (pk_le (bs_n l t) i (fun z => absurd z (by omega)) (fun _ => ⟨bs_in hv, pk_le (bs_n l v) (j + i) (fun z => absurd z (by omega)) (fun _ => ⟨pk_in (40 * t + i) 440 (by omega) e2, pk_in (40 * v + j + i) 440 (by omega) e3, nm_r (e' := bs_cp (40 * t) (40 * v + j) c (i + 1)) ?_ (nm_r (nI_1 i) (nm_r (nI_1 i) (g _ rfl)))⟩) (bs_l hl hv) e1⟩) (bs_l hl ht))
    subst hs
    rw [pk_cl (40 * t + i) e2, pk_cl (40 * v + j + i) e3]
    rfl
theorem by_swap {post : Int32 → SY → Prop} {x : Int32} {u v : Nat} {c l : Nat → Int32} (hu : u < 11) (hv : v < 11) (p : post 0 (x, bs_sw (40 * u) (40 * v) c 40, l)) : ∃ m, wY_swap_47 post (nI u) (nI v) x m 0 c l := by
  refine loop_0 (fun m i s => wY_swap_47 post (nI u) (nI v) x m (nI i) s l) (fun i s => s = bs_sw (40 * u) (40 * v) c i) 40 c rfl (fun m s hs => ?_) (fun m i s hi hs k => ?_)
  · subst hs
    exact br_t (nI_le (a := 40) (b := 40) (Nat.le_refl _) (by omega)) p
  · have e1 : 40 * nI u + nI i = nI (40 * u + i) := by rw [bs_40l, nI_add]
    have e2 : 40 * nI v + nI i = nI (40 * v + i) := by rw [bs_40l, nI_add]
    have i1 : vp_in (40 * nI u + nI i) 440 := pk_in (40 * u + i) 440 (by omega) e1
    have i2 : vp_in (40 * nI v + nI i) 440 := pk_in (40 * v + i) 440 (by omega) e2
    refine br_f (nI_ge (a := i) (b := 40) hi (by omega)) ⟨i1, nm_e ⟨i2, i1, nm_e ⟨i2, nm_r (e' := bs_sw (40 * u) (40 * v) c (i + 1)) ?_ (nm_r (nI_1 i) (k _ rfl))⟩⟩⟩
    subst hs
    rw [pk_cl (40 * u + i) e1, pk_cl (40 * v + i) e2]
    rfl
end
section
/-! one theorem a method -/
theorem i_vc_key {k : Nat} {u : SX} {v : SY} (I : i_Rel k u v) (hk : k + 3 ≤ 1536) (v1 : Int32) : wpX_key (fun r u' => wpY_key (fun r' v' => r' = r ∧ i_Rel (k + 3) u' v') v v1) u v1 := by
  obtain ⟨d, c, l, rfl, rfl, hd, hl⟩ := I
  unfold wpX_key wpY_key
  dsimp only
  by_cases hb : bs_B 255 v1
  · obtain ⟨n, hn, e⟩ := hl 10 (by omega)
    refine bx_B1 hb (br_f bs_10 ?_)
    by_cases z : n = 40
    · subst z
      exact nm_r e (br_f (nI_nlt (a := 40) (b := 40) (Nat.le_refl _) (by decide)) (by_S1 hb (br_f bs_10 (br_t e ⟨rfl, bs_rel hd hl⟩))))
    · have e4 : 400 + nI n = nI (400 + n) := nI_add 400 n
      have z4 : ¬ nI n = 40 := fun y => z ((nI_eq (a := n) (b := 40) (by omega) (by omega)).mp y)
      refine nm_r e (br_t (nI_lt (a := n) (b := 40) (by omega) (by decide)) ⟨pk_in (400 + n) 440 (by omega) e4, nm_r (e' := upd c (400 + n) v1) (by rw [pk_cl (400 + n) e4]) (nm_r (e' := upd l 10 (nI (n + 1))) (by rw [nI_1]) ?_)⟩)
      rw [e]
      exact by_S1 hb (br_f bs_10 (br_f z4 ⟨pk_in (400 + n) 440 (by omega) e4, nm_r (e' := upd c (400 + n) v1) (by rw [pk_cl (400 + n) e4]) (nm_r (e' := upd l 10 (nI (n + 1))) (by rw [nI_1]) ⟨pk_us.trans (nI_1 n).symm, bs_rel hd (bs_lenU hl 10 (by omega))⟩)⟩))
  · exact bx_B0 hb (br_t rfl (by_S0 hb (br_t rfl ⟨rfl, bs_rel hd hl⟩)))
theorem i_vc_newLine {k : Nat} {u : SX} {v : SY} (I : i_Rel k u v) (hk : k + 3 ≤ 1536) : wpX_newLine (fun u' => wpY_newLine (fun v' => i_Rel (k + 3) u' v') v) u := by
  obtain ⟨d, c, l, rfl, rfl, hd, hl⟩ := I
  unfold wpX_newLine wpY_newLine
  dsimp only
  exact nm_e (nm_e (bs_rel hd (bs_lenU hl 10 (n := 0) (by omega))))
theorem bv_put {k d a : Nat} {c l : Nat → Int32} (hd : d ≤ 4) (hl : bs_len l) (ha : a < 11) (hn : d < 4 → a ≠ 6 + d) : wpX_putCopyOf (fun r u' => wpY_pushCopy (fun r' v' => r' = r ∧ i_Rel (k + 3) u' v') (nI d, c, l) (nI a)) (nI d, c, l) (nI a) := by
  have n40 := bs_n40 hl ha
  by_cases h : 4 ≤ d ∨ 100 < bs_sum l (6 + d) + bs_n l a
  · exact bx_put0 hd hl ha h (by_put0 hd hl ha h ⟨rfl, bs_rel hd hl⟩)
  · have h1 : d < 4 := by omega
    have h2 : bs_sum l (6 + d) + bs_n l a ≤ 100 := by omega
    exact bx_put1 h1 hl ha h2 (by_put1 h1 hl ha (hn h1) h2 ⟨rfl, bs_rel (by omega) (bs_lenU hl _ n40)⟩)
theorem i_vc_literal {k : Nat} {u : SX} {v : SY} (I : i_Rel k u v) (hk : k + 3 ≤ 1536) : wpX_literal (fun r u' => wpY_literal (fun r' v' => r' = r ∧ i_Rel (k + 3) u' v') v) u := by
  obtain ⟨d, c, l, rfl, rfl, hd, hl⟩ := I
  unfold wpX_literal wpY_literal
  dsimp only
  exact bv_put (a := 10) hd hl (by omega) (fun _ => by omega)
theorem i_vc_push {k : Nat} {u : SX} {v : SY} (I : i_Rel k u v) (hk : k + 3 ≤ 1536) (v1 : Int32) : wpX_push (fun r u' => wpY_push (fun r' v' => r' = r ∧ i_Rel (k + 3) u' v') v v1) u v1 := by
  obtain ⟨d, c, l, rfl, rfl, hd, hl⟩ := I
  unfold wpX_push wpY_push
  dsimp only
  by_cases hb : bs_B 5 v1
  · obtain ⟨a, ha, rfl⟩ := hb
    have ha' : a < 11 := by omega
    have n40 := bs_n40 hl ha'
    have hb : bs_B 5 (nI a) := ⟨a, ha, rfl⟩
    refine bx_V1 hb (br_f bs_10 ?_)
    by_cases h : 4 ≤ d ∨ 100 < bs_sum l (6 + d) + bs_n l a
    · exact bx_put0 hd hl ha' h (by_V1 hb (br_f bs_10 (by_put0 hd hl ha' h ⟨rfl, bs_rel hd hl⟩)))
    · have h1 : d < 4 := by omega
      have h2 : bs_sum l (6 + d) + bs_n l a ≤ 100 := by omega
      exact bx_put1 h1 hl ha' h2 (by_V1 hb (br_f bs_10 (by_put1 h1 hl ha' (by omega) h2 ⟨rfl, bs_rel (by omega) (bs_lenU hl _ n40)⟩)))
  · exact bx_V0 hb (br_t rfl (by_V0 hb (br_t rfl ⟨rfl, bs_rel hd hl⟩)))
theorem bs_00 : ¬ (1 : Int32) ≤ nI 0 := nI_ge (a := 0) (b := 1) (by omega) (by decide)
theorem bs_1e {e : Nat} (h : e < 4) : (1 : Int32) ≤ nI (e + 1) := nI_le (a := 1) (b := e + 1) (by omega) (by omega)
theorem bs_0e {e : Nat} (h : e < 4) : ¬ nI (e + 1) = 0 := nI_ne0 (by omega) (by omega)
theorem i_vc_let {k : Nat} {u : SX} {v : SY} (I : i_Rel k u v) (hk : k + 3 ≤ 1536) (v1 : Int32) : wpX_let (fun r u' => wpY_let (fun r' v' => r' = r ∧ i_Rel (k + 3) u' v') v v1) u v1 := by
  obtain ⟨d, c, l, rfl, rfl, hd, hl⟩ := I
  unfold wpX_let wpY_let
  dsimp only
  by_cases hb : bs_B 5 v1
  · obtain ⟨a, ha, rfl⟩ := hb
    have ha' : a < 11 := by omega
    have hb : bs_B 5 (nI a) := ⟨a, ha, rfl⟩
    refine bx_V1 hb (br_f bs_10 ?_)
    cases d with
    | zero => exact br_f bs_00 (by_V1 hb (br_f bs_10 (br_t rfl ⟨rfl, bs_rel hd hl⟩)))
    | succ e =>
      have n40 := bs_n40 hl (j := 6 + e) (by omega)
      rw [bs_top5]
      exact br_t (bs_1e (by omega)) (bx_top (bx_copyString hl (by omega) ha' (nm_r (nI_pred e) ⟨bs_in ha', by_V1 hb (br_f bs_10 (br_f (bs_0e (by omega)) (by_copy hl (by omega) ha' (nm_r (nI_pred e) ⟨bs_in ha', rfl, bs_rel (by omega) (bs_lenU hl _ n40)⟩))))⟩)))
  · exact bx_V0 hb (br_t rfl (by_V0 hb (br_t rfl ⟨rfl, bs_rel hd hl⟩)))
theorem i_vc_drop {k : Nat} {u : SX} {v : SY} (I : i_Rel k u v) (hk : k + 3 ≤ 1536) : wpX_drop (fun r u' => wpY_drop (fun r' v' => r' = r ∧ i_Rel (k + 3) u' v') v) u := by
  obtain ⟨d, c, l, rfl, rfl, hd, hl⟩ := I
  unfold wpX_drop wpY_drop
  dsimp only
  cases d with
  | zero => exact br_f bs_00 (br_t rfl ⟨rfl, bs_rel hd hl⟩)
  | succ e =>
    have e6 : 6 + nI e = nI (6 + e) := nI_add 6 e
    refine br_t (bs_1e (by omega)) (bx_top ⟨bs_in (by omega), nm_r (bs_l hl (by omega)) (nm_r (nI_pred e) (br_f (bs_0e (by omega)) (nm_r (nI_pred e) ⟨pk_in (6 + e) 11 (by omega) e6, ?_, bs_rel (by omega) hl⟩)))⟩)
    rw [pk_cl (6 + e) e6]
    exact bs_nE hl (by omega)
theorem i_vc_join {k : Nat} {u : SX} {v : SY} (I : i_Rel k u v) (hk : k + 3 ≤ 1536) : wpX_join (fun r u' => wpY_join (fun r' v' => r' = r ∧ i_Rel (k + 3) u' v') v) u := by
  obtain ⟨d, c, l, rfl, rfl, hd, hl⟩ := I
  unfold wpX_join wpY_join
  dsimp only
  by_cases h2 : d < 2
  · have h : ¬ (2 : Int32) ≤ nI d := nI_ge (a := d) (b := 2) h2 (by decide)
    exact br_f h (br_f h ⟨rfl, bs_rel hd hl⟩)
  · obtain ⟨e, rfl⟩ : ∃ e, d = e + 1 + 1 := ⟨d - 2, by omega⟩
    have h : (2 : Int32) ≤ nI (e + 1 + 1) := nI_le (a := 2) (b := e + 1 + 1) (by omega) (by omega)
    have hx : 6 + e < 11 := by omega
    have hy : 6 + (e + 1) < 11 := by omega
    have nx := bs_n40 hl hx
    have ny := bs_n40 hl hy
    have es : nI (6 + (e + 1)) - 1 = nI (6 + e) := nI_pred (6 + e)
    have el : l (nI (6 + e)).toNatClampNeg + l (nI (6 + (e + 1))).toNatClampNeg = nI (bs_n l (6 + e) + bs_n l (6 + (e + 1))) := by rw [bs_l hl hx, bs_l hl hy, nI_add]
    refine br_t h (bx_top (nm_r es ⟨bs_in hx, bs_in hy, nm_r el (pk_le (bs_n l (6 + e) + bs_n l (6 + (e + 1))) 40 (fun z => ⟨bs_in hx, bs_in hy, ?_⟩) (fun z => ?_))⟩))
    · rw [bs_40r, bs_40r, bs_l hl hx, bs_l hl hy, nI_add]
      refine bx_copyCells (by omega) (by omega) ny (fun i hi => by omega) ⟨bs_in hx, nm_r (e' := upd l (6 + e) (nI (bs_n l (6 + e) + bs_n l (6 + (e + 1))))) ?_ (nm_r (nI_pred (e + 1)) ?_)⟩
      · dsimp only
        rw [nI_clamp (n := 6 + e) (by omega)]
      · exact br_t h (nm_r (bs_top5 (e + 1)) (nm_r es ⟨bs_in hx, bs_in hy, nm_r el (br_t (nI_le (b := 40) z (by omega)) (by_joinL hl hx hy z ⟨rfl, bs_rel (by omega) (bs_lenU hl _ z)⟩))⟩))
    · exact br_t h (nm_r (bs_top5 (e + 1)) (nm_r es ⟨bs_in hx, bs_in hy, nm_r el (br_f (nI_ge (a := 40) z (by omega)) ⟨rfl, bs_rel hd hl⟩)⟩))
theorem bv_cut {k e st n : Nat} {c l : Nat → Int32} (he : e < 4) (hl : bs_len l) : i_Rel (k + 3) (nI (e + 1), bs_cp (40 * (6 + e) + st) (40 * (6 + e)) c (min n (bs_n l (6 + e) - st)), upd l (6 + e) (nI (min n (bs_n l (6 + e) - st)))) (nI (e + 1), bs_cp (40 * (6 + e) + st) (40 * (6 + e)) c (min n (bs_n l (6 + e) - st)), upd l (6 + e) (nI (min n (bs_n l (6 + e) - st)))) := by
  have n40 := bs_n40 hl (j := 6 + e) (by omega)
  exact bs_rel (by omega) (bs_lenU hl _ (by omega))
theorem i_vc_left {k : Nat} {u : SX} {v : SY} (I : i_Rel k u v) (hk : k + 3 ≤ 1536) (v1 : Int32) : wpX_left (fun r u' => wpY_left (fun r' v' => r' = r ∧ i_Rel (k + 3) u' v') v v1) u v1 := by
  obtain ⟨d, c, l, rfl, rfl, hd, hl⟩ := I
  unfold wpX_left wpY_left
  dsimp only
  by_cases hb : bs_B 255 v1
  · refine bx_B1 hb (br_f bs_10 ?_)
    cases d with
    | zero => exact br_f bs_00 (by_S1 hb (br_f bs_10 (br_t rfl ⟨rfl, bs_rel hd hl⟩)))
    | succ e =>
      have hb' := hb
      obtain ⟨n, hn, rfl⟩ := hb
      exact br_t (bs_1e (by omega)) (bx_keep (st := 0) (by omega) hl (by omega) (by omega) (by_S1 hb' (br_f bs_10 (br_f (bs_0e (by omega)) (by_cut (st := 0) (by omega) hl (by omega) (by omega) ⟨rfl, bv_cut (by omega) hl⟩)))))
  · exact bx_B0 hb (br_t rfl (by_S0 hb (br_t rfl ⟨rfl, bs_rel hd hl⟩)))
theorem i_vc_right {k : Nat} {u : SX} {v : SY} (I : i_Rel k u v) (hk : k + 3 ≤ 1536) (v1 : Int32) : wpX_right (fun r u' => wpY_right (fun r' v' => r' = r ∧ i_Rel (k + 3) u' v') v v1) u v1 := by
  obtain ⟨d, c, l, rfl, rfl, hd, hl⟩ := I
  unfold wpX_right wpY_right
  dsimp only
  by_cases hb : bs_B 255 v1
  · refine bx_B1 hb (br_f bs_10 ?_)
    cases d with
    | zero => exact br_f bs_00 (by_S1 hb (br_f bs_10 (br_t rfl ⟨rfl, bs_rel hd hl⟩)))
    | succ e =>
      have hb' := hb
      obtain ⟨n, hn, rfl⟩ := hb
      have ht : 6 + e < 11 := by omega
      have n40 := bs_n40 hl ht
      have el : l (nI (6 + e)).toNatClampNeg = nI (bs_n l (6 + e)) := bs_l hl ht
      rw [bs_top5]
      refine br_t (bs_1e (by omega)) (bx_top ⟨bs_in ht, nm_r el (pk_le (bs_n l (6 + e)) n (fun z => ?_) (fun z => ?_))⟩)
      · refine bx_keep (st := 0) (by omega) hl (by omega) (by omega) (by_S1 hb' (br_f bs_10 (br_f (bs_0e (by omega)) ⟨bs_in ht, nm_r el (br_f (nI_nlt z (by omega)) ?_)⟩)))
        have em : min n (bs_n l (6 + e) - 0) = bs_n l (6 + e) := by omega
        rw [em, show 40 * (6 + e) + 0 = 40 * (6 + e) from rfl, bs_cpI]
        refine ⟨rfl, ?_⟩
        have eu : upd l (6 + e) (nI (bs_n l (6 + e))) = l := by
          rw [← bs_nE hl ht]
          exact bs_updI l (6 + e)
        rw [eu]
        exact bs_rel hd hl
      · rw [pk_sub (Nat.le_of_lt z)]
        exact bx_keep (by omega) hl (by omega) (by omega) (by_S1 hb' (br_f bs_10 (br_f (bs_0e (by omega)) ⟨bs_in ht, nm_r el (br_t (nI_lt z (by omega)) (by rw [pk_sub (Nat.le_of_lt z)]; exact by_cut (by omega) hl (by omega) (by omega) ⟨rfl, bv_cut (by omega) hl⟩))⟩)))
  · exact bx_B0 hb (br_t rfl (by_S0 hb (br_t rfl ⟨rfl, bs_rel hd hl⟩)))
theorem i_vc_mid {k : Nat} {u : SX} {v : SY} (I : i_Rel k u v) (hk : k + 3 ≤ 1536) (v1 : Int32) (v2 : Int32) : wpX_mid (fun r u' => wpY_mid (fun r' v' => r' = r ∧ i_Rel (k + 3) u' v') v v1 v2) u v1 v2 := by
  obtain ⟨d, c, l, rfl, rfl, hd, hl⟩ := I
  unfold wpX_mid wpY_mid
  dsimp only
  rcases bs_Pc v1 with ⟨a, hp⟩ | ⟨a, b, _, hp⟩ | ⟨a, b, _, hp⟩
  · exact bx_P0 hp (br_t rfl (br_t a ⟨rfl, bs_rel hd hl⟩))
  · exact bx_P0 hp (br_t rfl (br_f a (br_t b ⟨rfl, bs_rel hd hl⟩)))
  · refine bx_P1 hp (br_f bs_10 ?_)
    by_cases hb : bs_B 255 v2
    · refine bx_B1 hb (br_f bs_10 ?_)
      cases d with
      | zero => exact br_f bs_00 (br_f a (br_f b (by_S1 hb (br_f bs_10 (br_t rfl ⟨rfl, bs_rel hd hl⟩)))))
      | succ e =>
        have hb' := hb
        obtain ⟨n, hn, rfl⟩ := hb
        obtain ⟨j, hj, rfl⟩ := hp
        rw [nI_pred]
        exact br_t (bs_1e (by omega)) (bx_keep (by omega) hl (by omega) (by omega) (br_f a (br_f b (by_S1 hb' (br_f bs_10 (br_f (bs_0e (by omega)) (by_cut (by omega) hl (by omega) (by omega) ⟨rfl, bv_cut (by omega) hl⟩)))))))
    · exact bx_B0 hb (br_t rfl (br_f a (br_f b (by_S0 hb (br_t rfl ⟨rfl, bs_rel hd hl⟩)))))
end
section
/-! one theorem a method, the second half -/
theorem i_vc_repeat {k : Nat} {u : SX} {v : SY} (I : i_Rel k u v) (hk : k + 3 ≤ 1536) (v1 : Int32) (v2 : Int32) : wpX_repeat (fun r u' => wpY_repeat (fun r' v' => r' = r ∧ i_Rel (k + 3) u' v') v v1 v2) u v1 v2 := by
  obtain ⟨d, c, l, rfl, rfl, hd, hl⟩ := I
  unfold wpX_repeat wpY_repeat
  dsimp only
  by_cases hb : bs_B 255 v1
  · refine bx_B1 hb (br_f bs_10 ?_)
    by_cases hc : bs_B 255 v2
    · have hb' := hb
      obtain ⟨n, hn, rfl⟩ := hb
      have hs := bs_sum_le hl (6 + d) (by omega)
      have e6 : 6 + nI d = nI (6 + d) := nI_add 6 d
      have es : nI (bs_sum l (6 + d)) + nI n = nI (bs_sum l (6 + d) + n) := nI_add _ _
      refine bx_B1 hc (br_f bs_10 (pk_lt d 4 (fun h4 => pk_le n 40 (fun h40 => ?_) (fun h40 => ?_)) (fun h4 => ?_)))
      · have f4 : ¬ nI d = 4 := fun y => absurd ((nI_eq (a := d) (b := 4) (by omega) (by omega)).mp y) (by omega)
        have f40 : nI n ≤ 40 := nI_le (a := n) (b := 40) h40 (by decide)
        by_cases h : bs_sum l (6 + d) + n ≤ 100
        · refine bx_room1 hd hl h (br_f bs_10 (nm_r (nI_1 d) (bx_top (bx_rep (by omega) h40 ?_))))
          exact by_S1 hb' (br_f bs_10 (by_S1 hc (br_f bs_10 (br_f f4 (br_t f40 (by_used hd hl (pk_le (bs_sum l (6 + d) + n) 100 (fun _ => nm_r e6 (by_rep (by omega) h40 ⟨rfl, bs_rel (by omega) (bs_lenU hl _ h40)⟩)) (fun z => absurd z (by omega)) es)))))))
        · refine bx_room0 hd hl h40 (by omega) (br_t rfl ?_)
          exact by_S1 hb' (br_f bs_10 (by_S1 hc (br_f bs_10 (br_f f4 (br_t f40 (by_used hd hl (pk_le (bs_sum l (6 + d) + n) 100 (fun z => absurd z (by omega)) (fun _ => ⟨rfl, bs_rel hd hl⟩) es)))))))
      · have f4 : ¬ nI d = 4 := fun y => absurd ((nI_eq (a := d) (b := 4) (by omega) (by omega)).mp y) (by omega)
        exact by_S1 hb' (br_f bs_10 (by_S1 hc (br_f bs_10 (br_f f4 (br_f (nI_ge (a := 40) (b := n) h40 (by omega)) ⟨rfl, bs_rel hd hl⟩)))))
      · have e4 : d = 4 := by omega
        subst e4
        exact by_S1 hb' (br_f bs_10 (by_S1 hc (br_f bs_10 (br_t rfl ⟨rfl, bs_rel hd hl⟩))))
    · exact bx_B0 hc (br_t rfl (by_S1 hb (br_f bs_10 (by_S0 hc (br_t rfl ⟨rfl, bs_rel hd hl⟩)))))
  · exact bx_B0 hb (br_t rfl (by_S0 hb (br_t rfl ⟨rfl, bs_rel hd hl⟩)))
theorem i_vc_compare {k : Nat} {u : SX} {v : SY} (I : i_Rel k u v) (hk : k + 3 ≤ 1536) : wpX_compare (fun r u' => wpY_compare (fun r' v' => r' = r ∧ i_Rel (k + 3) u' v') v) u := by
  obtain ⟨d, c, l, rfl, rfl, hd, hl⟩ := I
  unfold wpX_compare wpY_compare
  dsimp only
  by_cases h2 : d < 2
  · have h : ¬ (2 : Int32) ≤ nI d := nI_ge (a := d) (b := 2) h2 (by decide)
    exact br_f h (br_f h ⟨rfl, bs_rel hd hl⟩)
  · obtain ⟨e, rfl⟩ : ∃ e, d = e + 1 + 1 := ⟨d - 2, by omega⟩
    have h : (2 : Int32) ≤ nI (e + 1 + 1) := nI_le (a := 2) (b := e + 1 + 1) (by omega) (by omega)
    have hx : 6 + e < 11 := by omega
    have hy : 6 + (e + 1) < 11 := by omega
    have es : nI (6 + (e + 1)) - 1 = nI (6 + e) := nI_pred (6 + e)
    have ed : nI (e + 1 + 1) - 2 = nI e := pk_sub (a := e + 1 + 1) (b := 2) (by omega)
    have e6 : 6 + nI e = nI (6 + e) := nI_add 6 e
    have e7 : 7 + nI e = nI (6 + (e + 1)) := (nI_add 7 e).trans (congrArg nI (by omega))
    refine br_t h (bx_top (nm_r ed ?_))
    rw [es]
    refine bx_ord hl hx hy (br_t h (nm_r ed ?_))
    rw [e6, e7]
    exact by_ord hl hx hy ⟨rfl, bs_rel (by omega) hl⟩
theorem i_vc_find {k : Nat} {u : SX} {v : SY} (I : i_Rel k u v) (hk : k + 3 ≤ 1536) (v1 : Int32) (v2 : Int32) : wpX_find (fun r => wpY_find (fun r' => r' = r ∧ i_Rel (k + 3) u v) v v1 v2) u v1 v2 := by
  obtain ⟨d, c, l, rfl, rfl, hd, hl⟩ := I
  unfold wpX_find wpY_find
  dsimp only
  by_cases hu : bs_B 5 v1
  · refine bx_V1 hu (br_f bs_10 ?_)
    by_cases hv : bs_B 5 v2
    · have hu' := hu
      have hv' := hv
      obtain ⟨a, ha, rfl⟩ := hu
      obtain ⟨b, hb, rfl⟩ := hv
      exact bx_V1 hv' (br_f bs_10 ⟨_, bx_fdL hl (by omega) (by omega) (bs_n l a) 0 (by omega) (by_V1 hu' (br_f bs_10 (by_V1 hv' (br_f bs_10 ⟨_, by_fdL hl (by omega) (by omega) (bs_n l a) 0 (by omega) ⟨rfl, bs_rel hd hl⟩⟩))))⟩)
    · exact bx_V0 hv (br_t rfl (by_V1 hu (br_f bs_10 (by_V0 hv (br_t rfl ⟨rfl, bs_rel hd hl⟩)))))
  · exact bx_V0 hu (br_t rfl (by_V0 hu (br_t rfl ⟨rfl, bs_rel hd hl⟩)))
theorem i_vc_setMid {k : Nat} {u : SX} {v : SY} (I : i_Rel k u v) (hk : k + 3 ≤ 1536) (v1 : Int32) (v2 : Int32) : wpX_setMid (fun r u' => wpY_setMid (fun r' v' => r' = r ∧ i_Rel (k + 3) u' v') v v1 v2) u v1 v2 := by
  obtain ⟨d, c, l, rfl, rfl, hd, hl⟩ := I
  unfold wpX_setMid wpY_setMid
  dsimp only
  by_cases hv : bs_B 5 v1
  · refine bx_V1 hv (br_f bs_10 ?_)
    rcases bs_Pc v2 with ⟨a, hp⟩ | ⟨a, _, b, hp⟩ | ⟨a, _, b, hp⟩
    · exact bx_P0 hp (br_t rfl (by_V1 hv (br_f bs_10 (br_t a ⟨rfl, bs_rel hd hl⟩))))
    · exact bx_P0 hp (br_t rfl (by_V1 hv (br_f bs_10 (br_f a (br_f b ⟨rfl, bs_rel hd hl⟩)))))
    · refine bx_P1 hp (br_f bs_10 ?_)
      cases d with
      | zero => exact br_f bs_00 (by_V1 hv (br_f bs_10 (br_f a (br_t b (br_t rfl ⟨rfl, bs_rel hd hl⟩)))))
      | succ e =>
        have hv' := hv
        obtain ⟨w, hw, rfl⟩ := hv
        obtain ⟨j, hj, rfl⟩ := hp
        have ht : 6 + e < 11 := by omega
        have hw' : w < 11 := by omega
        have n1 := bs_n40 hl ht
        have n2 := bs_n40 hl hw'
        have ej : nI w * 40 + nI (j + 1) - 1 = nI (40 * w + j) := by
          rw [bs_40r, nI_add]
          exact nI_pred (40 * w + j)
        refine br_t (bs_1e (by omega)) (bx_top ⟨bs_in ht, ?_⟩)
        rw [ej, nI_pred j, bs_40r, bs_l hl ht]
        refine bx_count hl hw' (by omega) (by omega) (bx_copyCells (by omega) (by omega) (by omega) (fun i hi => by omega) (nm_r (nI_pred e) ?_))
        exact by_V1 hv' (br_f bs_10 (br_f a (br_t b (br_f (bs_0e (by omega)) (nm_r (bs_top5 e) (by_setL hl ht hw' hj ⟨rfl, bs_rel (by omega) hl⟩))))))
  · exact bx_V0 hv (br_t rfl (by_V0 hv (br_t rfl ⟨rfl, bs_rel hd hl⟩)))
theorem i_vc_swap {k : Nat} {u : SX} {v : SY} (I : i_Rel k u v) (hk : k + 3 ≤ 1536) (v1 : Int32) (v2 : Int32) : wpX_swap (fun r u' => wpY_swap (fun r' v' => r' = r ∧ i_Rel (k + 3) u' v') v v1 v2) u v1 v2 := by
  obtain ⟨d, c, l, rfl, rfl, hd, hl⟩ := I
  unfold wpX_swap wpY_swap
  dsimp only
  by_cases hu : bs_B 5 v1
  · refine bx_V1 hu (br_f bs_10 ?_)
    by_cases hv : bs_B 5 v2
    · have hu' := hu
      have hv' := hv
      obtain ⟨a, ha, rfl⟩ := hu
      obtain ⟨b, hb, rfl⟩ := hv
      have ia : a < 11 := by omega
      have ib : b < 11 := by omega
      have na := bs_n40 hl ia
      have nb := bs_n40 hl ib
      refine bx_V1 hv' (br_f bs_10 (bx_swap hl ia ib (by_V1 hu' (br_f bs_10 (by_V1 hv' (br_f bs_10 ⟨bs_in ia, nm_r (bs_l hl ia) ⟨bs_in ib, bs_in ia, nm_r (e' := upd l a (nI (bs_n l b))) ?_ ⟨bs_in ib, nm_r (e' := upd (upd l a (nI (bs_n l b))) b (nI (bs_n l a))) ?_ (by_swap ia ib ⟨rfl, bs_rel hd (bs_lenU (bs_lenU hl _ nb) _ na)⟩)⟩⟩⟩))))))
      · rw [bs_l hl ib, nI_clamp (n := a) (by omega)]
      · rw [nI_clamp (n := b) (by omega)]
    · exact bx_V0 hv (br_t rfl (by_V1 hu (br_f bs_10 (by_V0 hv (br_t rfl ⟨rfl, bs_rel hd hl⟩)))))
  · exact bx_V0 hu (br_t rfl (by_V0 hu (br_t rfl ⟨rfl, bs_rel hd hl⟩)))
theorem i_vc_length {k : Nat} {u : SX} {v : SY} (I : i_Rel k u v) (hk : k + 3 ≤ 1536) (v1 : Int32) : wpX_length (fun r => wpY_length (fun r' => r' = r ∧ i_Rel (k + 3) u v) v v1) u v1 := by
  obtain ⟨d, c, l, rfl, rfl, hd, hl⟩ := I
  unfold wpX_length wpY_length
  dsimp only
  by_cases hv : bs_B 5 v1
  · have hv' := hv
    obtain ⟨a, ha, rfl⟩ := hv
    exact bx_V1 hv' (br_f bs_10 ⟨bs_in (by omega), by_V1 hv' (br_f bs_10 ⟨bs_in (by omega), rfl, bs_rel hd hl⟩)⟩)
  · exact bx_V0 hv (br_t rfl (by_V0 hv (br_t rfl ⟨rfl, bs_rel hd hl⟩)))
theorem i_vc_at {k : Nat} {u : SX} {v : SY} (I : i_Rel k u v) (hk : k + 3 ≤ 1536) (v1 : Int32) (v2 : Int32) : wpX_at (fun r => wpY_at (fun r' => r' = r ∧ i_Rel (k + 3) u v) v v1 v2) u v1 v2 := by
  obtain ⟨d, c, l, rfl, rfl, hd, hl⟩ := I
  unfold wpX_at wpY_at
  dsimp only
  by_cases hv : bs_B 5 v1
  · have hv' := hv
    obtain ⟨a, ha, rfl⟩ := hv
    have ia : a < 11 := by omega
    have na := bs_n40 hl ia
    refine bx_V1 hv' (br_f bs_10 ?_)
    by_cases h1 : v2 < 1
    · exact bx_char0 h1 (by_V1 hv' (br_f bs_10 (br_t h1 ⟨rfl, bs_rel hd hl⟩)))
    · obtain ⟨j, hj, rfl⟩ := bs_pos h1
      have e : 40 * nI a + nI (j + 1) - 1 = nI (40 * a + j) := by
        rw [bs_40l, nI_add]
        exact nI_pred (40 * a + j)
      rw [bs_l hl ia]
      refine bx_char hl ia hj (fun z => by_V1 hv' (br_f bs_10 (br_f h1 ⟨bs_in ia, br_f (nI_nlt z (by omega)) ⟨pk_in (40 * a + j) 440 (by omega) e, ?_, bs_rel hd hl⟩⟩))) (fun z => by_V1 hv' (br_f bs_10 (br_f h1 ⟨bs_in ia, br_t (nI_lt z hj) ⟨rfl, bs_rel hd hl⟩⟩)))
      rw [pk_cl (40 * a + j) e]
  · exact bx_V0 hv (br_t rfl (by_V0 hv (br_t rfl ⟨rfl, bs_rel hd hl⟩)))
theorem i_vc_pile {k : Nat} {u : SX} {v : SY} (I : i_Rel k u v) (hk : k + 3 ≤ 1536) : wpX_pile (fun r => wpY_pile (fun r' => r' = r ∧ i_Rel (k + 3) u v) v) u := by
  obtain ⟨d, c, l, rfl, rfl, hd, hl⟩ := I
  unfold wpX_pile wpY_pile
  dsimp only
  exact ⟨by trivial, bs_rel hd hl⟩
theorem i_vc_topLength {k : Nat} {u : SX} {v : SY} (I : i_Rel k u v) (hk : k + 3 ≤ 1536) : wpX_topLength (fun r => wpY_topLength (fun r' => r' = r ∧ i_Rel (k + 3) u v) v) u := by
  obtain ⟨d, c, l, rfl, rfl, hd, hl⟩ := I
  unfold wpX_topLength wpY_topLength
  dsimp only
  cases d with
  | zero => exact br_f bs_00 (br_t rfl ⟨rfl, bs_rel hd hl⟩)
  | succ e =>
    rw [bs_top5]
    exact br_t (bs_1e (by omega)) (bx_top ⟨bs_in (by omega), br_f (bs_0e (by omega)) ⟨bs_in (by omega), rfl, bs_rel hd hl⟩⟩)
theorem i_vc_topAt {k : Nat} {u : SX} {v : SY} (I : i_Rel k u v) (hk : k + 3 ≤ 1536) (v1 : Int32) : wpX_topAt (fun r => wpY_topAt (fun r' => r' = r ∧ i_Rel (k + 3) u v) v v1) u v1 := by
  obtain ⟨d, c, l, rfl, rfl, hd, hl⟩ := I
  unfold wpX_topAt wpY_topAt
  dsimp only
  cases d with
  | zero => exact br_f bs_00 (br_t (nI_le (a := 0) (b := 0) (Nat.le_refl _) (by decide)) ⟨rfl, bs_rel hd hl⟩)
  | succ e =>
    have ht : 6 + e < 11 := by omega
    have n1 := bs_n40 hl ht
    have h0 : ¬ nI (e + 1) ≤ 0 := nI_nle (by omega) (by omega)
    rw [bs_top5]
    refine br_t (bs_1e (by omega)) (bx_top ?_)
    by_cases h1 : v1 < 1
    · exact bx_char0 h1 (br_f h0 (br_t h1 ⟨rfl, bs_rel hd hl⟩))
    · obtain ⟨j, hj, rfl⟩ := bs_pos h1
      have ee : 40 * nI (6 + e) + nI (j + 1) - 1 = nI (40 * (6 + e) + j) := by
        rw [bs_40l, nI_add]
        exact nI_pred (40 * (6 + e) + j)
      rw [bs_l hl ht]
      refine bx_char hl ht hj (fun z => br_f h0 (br_f h1 ⟨bs_in ht, br_f (nI_nlt z (by omega)) ⟨pk_in (40 * (6 + e) + j) 440 (by omega) ee, ?_, bs_rel hd hl⟩⟩)) (fun z => br_f h0 (br_f h1 ⟨bs_in ht, br_t (nI_lt z hj) ⟨rfl, bs_rel hd hl⟩⟩))
      rw [pk_cl (40 * (6 + e) + j) ee]
theorem i_vc_used {k : Nat} {u : SX} {v : SY} (I : i_Rel k u v) (hk : k + 3 ≤ 1536) : wpX_used (fun r => wpY_used (fun r' => r' = r ∧ i_Rel (k + 3) u v) v) u := by
  obtain ⟨d, c, l, rfl, rfl, hd, hl⟩ := I
  unfold wpX_used
  dsimp only
  exact bx_sum hd hl (by_used hd hl ⟨rfl, bs_rel hd hl⟩)
end
