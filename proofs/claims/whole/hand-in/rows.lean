section
/-! A line of six cells (first cell f, step s) over an array of flags: how many are lost (pl_c), its cells set (pl_k), one line mended (pl_l, answer pl_a), one pass over rows and columns (pl_s, answer pl_t), k passes (pl_it, answer pl_su), and how many lines have a lost cell (pl_m) -/
def pl_c (a : Nat → Int32) (f s : Nat) : Nat → Nat
  | 0 => 0
  | i + 1 => pl_c a f s i + (if a (f + i * s) = 0 then 0 else 1)
def pl_k (a : Nat → Int32) (f s : Nat) (x : Int32) : Nat → (Nat → Int32)
  | 0 => a
  | i + 1 => upd (pl_k a f s x i) (f + i * s) x
theorem pl_c_s (a : Nat → Int32) (f s i : Nat) : pl_c a f s (i + 1) = pl_c a f s i + (if a (f + i * s) = 0 then 0 else 1) := rfl
theorem pl_c_s0 {a : Nat → Int32} {f s i : Nat} (h : a (f + i * s) = 0) : pl_c a f s (i + 1) = pl_c a f s i := by
  rw [pl_c_s, if_pos h]; rfl
theorem pl_c_s1 {a : Nat → Int32} {f s i : Nat} (h : ¬ a (f + i * s) = 0) : pl_c a f s (i + 1) = pl_c a f s i + 1 := by
  rw [pl_c_s, if_neg h]
theorem pl_c_le (a : Nat → Int32) (f s : Nat) : ∀ i, pl_c a f s i ≤ i := by
  intro i
  induction i with
  | zero => exact Nat.le_refl 0
  | succ i ih =>
    by_cases h : a (f + i * s) = 0
    · rw [pl_c_s0 h]; omega
    · rw [pl_c_s1 h]; omega
/-- b has lost no cell that a hasn't -/
def pl_le (b a : Nat → Int32) : Prop := ∀ j, a j = 0 → b j = 0
theorem pl_c_mono {b a : Nat → Int32} (h : pl_le b a) (f s : Nat) : ∀ i, pl_c b f s i ≤ pl_c a f s i := by
  intro i
  induction i with
  | zero => exact Nat.le_refl 0
  | succ i ih =>
    by_cases ha : a (f + i * s) = 0
    · rw [pl_c_s0 ha, pl_c_s0 (h _ ha)]; exact ih
    · rw [pl_c_s1 ha]
      by_cases hb : b (f + i * s) = 0
      · rw [pl_c_s0 hb]; omega
      · rw [pl_c_s1 hb]; omega
theorem pl_k_s (a : Nat → Int32) (f s : Nat) (x : Int32) (i : Nat) : pl_k a f s x (i + 1) = upd (pl_k a f s x i) (f + i * s) x := rfl
theorem pl_u_s (f : Nat → Int32) (k : Nat) (x : Int32) : upd f k x k = x := if_pos rfl
theorem pl_u_n {f : Nat → Int32} {k j : Nat} (x : Int32) (h : ¬ j = k) : upd f k x j = f j := if_neg h
theorem pl_k0_le (a : Nat → Int32) (f s : Nat) : ∀ i, pl_le (pl_k a f s 0 i) a := by
  intro i
  induction i with
  | zero => exact fun _ h => h
  | succ i ih =>
    intro j h
    rw [pl_k_s]
    by_cases e : j = f + i * s
    · rw [e, pl_u_s]
    · rw [pl_u_n _ e]; exact ih j h
theorem pl_k0_z (a : Nat → Int32) (f s : Nat) : ∀ i j, j < i → pl_k a f s 0 i (f + j * s) = 0 := by
  intro i
  induction i with
  | zero => exact fun j h => absurd h (Nat.not_lt_zero j)
  | succ i ih =>
    intro j h
    rw [pl_k_s]
    by_cases e : f + j * s = f + i * s
    · rw [e, pl_u_s]
    · rw [pl_u_n _ e]
      refine ih j ?_
      by_cases e' : j = i
      · exact absurd (by rw [e']) e
      · omega
theorem pl_k_off (a : Nat → Int32) (f : Nat) {s : Nat} (x : Int32) (hs : 0 < s) : ∀ i j, i ≤ j → pl_k a f s x i (f + j * s) = a (f + j * s) := by
  intro i
  induction i with
  | zero => exact fun _ _ => rfl
  | succ i ih =>
    intro j h
    have h1 := Nat.mul_le_mul_right s h
    rw [Nat.add_mul, Nat.one_mul] at h1
    rw [pl_k_s, pl_u_n _ (by omega)]
    exact ih j (by omega)
theorem pl_c_z {a : Nat → Int32} {f s : Nat} : ∀ i, (∀ j, j < i → a (f + j * s) = 0) → pl_c a f s i = 0 := by
  intro i
  induction i with
  | zero => exact fun _ => rfl
  | succ i ih =>
    intro h
    rw [pl_c_s0 (h i (Nat.lt_succ_self i))]
    exact ih (fun j hj => h j (by omega))
theorem pl_k_z {a : Nat → Int32} {f s : Nat} : ∀ i, pl_c a f s i = 0 → pl_k a f s 0 i = a := by
  intro i
  induction i with
  | zero => exact fun _ => rfl
  | succ i ih =>
    intro h
    by_cases ha : a (f + i * s) = 0
    · rw [pl_c_s0 ha] at h
      rw [pl_k_s, ih h]
      funext j
      by_cases e : j = f + i * s
      · rw [e, pl_u_s, ha]
      · rw [pl_u_n _ e]
    · rw [pl_c_s1 ha] at h; omega
/-! one line -/
def pl_l (a : Nat → Int32) (f s : Nat) : Nat → Int32 := if pl_c a f s 6 ≤ 2 then pl_k a f s 0 6 else a
def pl_a (a : Nat → Int32) (f s : Nat) : Nat := if pl_c a f s 6 ≤ 2 then pl_c a f s 6 else 0
theorem pl_l_t {a : Nat → Int32} {f s : Nat} (h : pl_c a f s 6 ≤ 2) : pl_l a f s = pl_k a f s 0 6 := if_pos h
theorem pl_l_f {a : Nat → Int32} {f s : Nat} (h : ¬ pl_c a f s 6 ≤ 2) : pl_l a f s = a := if_neg h
theorem pl_a_t {a : Nat → Int32} {f s : Nat} (h : pl_c a f s 6 ≤ 2) : pl_a a f s = pl_c a f s 6 := if_pos h
theorem pl_a_f {a : Nat → Int32} {f s : Nat} (h : ¬ pl_c a f s 6 ≤ 2) : pl_a a f s = 0 := if_neg h
theorem pl_a_le (a : Nat → Int32) (f s : Nat) : pl_a a f s ≤ 2 := by
  by_cases h : pl_c a f s 6 ≤ 2
  · rw [pl_a_t h]; exact h
  · rw [pl_a_f h]; omega
theorem pl_l_le (a : Nat → Int32) (f s : Nat) : pl_le (pl_l a f s) a := by
  by_cases h : pl_c a f s 6 ≤ 2
  · rw [pl_l_t h]; exact pl_k0_le a f s 6
  · rw [pl_l_f h]; exact fun _ h => h
theorem pl_l_or (a : Nat → Int32) (f s : Nat) : (pl_a a f s = 0 ∧ pl_l a f s = a) ∨ (0 < pl_a a f s ∧ pl_c (pl_l a f s) f s 6 = 0 ∧ 0 < pl_c a f s 6) := by
  by_cases h : pl_c a f s 6 ≤ 2
  · rw [pl_l_t h, pl_a_t h]
    by_cases h0 : pl_c a f s 6 = 0
    · exact Or.inl ⟨h0, pl_k_z 6 h0⟩
    · exact Or.inr ⟨by omega, pl_c_z 6 (fun j hj => pl_k0_z a f s 6 j hj), by omega⟩
  · exact Or.inl ⟨pl_a_f h, pl_l_f h⟩
/-! how many lines have a lost cell -/
def pl_n (a : Nat → Int32) (f s : Nat) : Nat := if pl_c a f s 6 = 0 then 0 else 1
def pl_m (a : Nat → Int32) : Nat → Nat
  | 0 => 0
  | i + 1 => pl_m a i + (pl_n a (i * 6) 1 + pl_n a i 6)
theorem pl_n_0 {a : Nat → Int32} {f s : Nat} (h : pl_c a f s 6 = 0) : pl_n a f s = 0 := if_pos h
theorem pl_n_1 {a : Nat → Int32} {f s : Nat} (h : 0 < pl_c a f s 6) : pl_n a f s = 1 := if_neg (by omega)
theorem pl_n_le (a : Nat → Int32) (f s : Nat) : pl_n a f s ≤ 1 := by
  by_cases h : pl_c a f s 6 = 0
  · rw [pl_n_0 h]; omega
  · rw [pl_n_1 (by omega)]; omega
theorem pl_n_mono {b a : Nat → Int32} (h : pl_le b a) (f s : Nat) : pl_n b f s ≤ pl_n a f s := by
  have hc := pl_c_mono h f s 6
  by_cases hb : pl_c b f s 6 = 0
  · rw [pl_n_0 hb]; omega
  · rw [pl_n_1 (a := b) (by omega), pl_n_1 (a := a) (by omega)]; omega
theorem pl_m_s (a : Nat → Int32) (i : Nat) : pl_m a (i + 1) = pl_m a i + (pl_n a (i * 6) 1 + pl_n a i 6) := rfl
theorem pl_m_le (a : Nat → Int32) : ∀ i, pl_m a i ≤ 2 * i := by
  intro i
  induction i with
  | zero => exact Nat.le_refl 0
  | succ i ih =>
    have h1 := pl_n_le a (i * 6) 1
    have h2 := pl_n_le a i 6
    rw [pl_m_s]; omega
theorem pl_m_mono {b a : Nat → Int32} (h : pl_le b a) : ∀ i, pl_m b i ≤ pl_m a i := by
  intro i
  induction i with
  | zero => exact Nat.le_refl 0
  | succ i ih =>
    have h1 := pl_n_mono h (i * 6) 1
    have h2 := pl_n_mono h i 6
    rw [pl_m_s, pl_m_s]; omega
theorem pl_m_lt {b a : Nat → Int32} (h : pl_le b a) {i : Nat} (hi : pl_n b (i * 6) 1 < pl_n a (i * 6) 1 ∨ pl_n b i 6 < pl_n a i 6) : ∀ k, i < k → pl_m b k < pl_m a k := by
  intro k
  induction k with
  | zero => exact fun hk => absurd hk (Nat.not_lt_zero i)
  | succ k ih =>
    intro hk
    have h1 := pl_n_mono h (k * 6) 1
    have h2 := pl_n_mono h k 6
    rw [pl_m_s, pl_m_s]
    by_cases e : i = k
    · rw [e] at hi
      have hm := pl_m_mono h k
      omega
    · have hm := ih (by omega)
      omega
theorem pl_row_or (b : Nat → Int32) {i : Nat} (hi : i < 6) : (pl_a b (i * 6) 1 = 0 ∧ pl_l b (i * 6) 1 = b) ∨ (0 < pl_a b (i * 6) 1 ∧ pl_m (pl_l b (i * 6) 1) 6 < pl_m b 6) := by
  rcases pl_l_or b (i * 6) 1 with h | ⟨h0, h1, h2⟩
  · exact Or.inl h
  · exact Or.inr ⟨h0, pl_m_lt (pl_l_le b (i * 6) 1) (Or.inl (by rw [pl_n_0 h1, pl_n_1 h2]; omega)) 6 hi⟩
theorem pl_col_or (b : Nat → Int32) {i : Nat} (hi : i < 6) : (pl_a b i 6 = 0 ∧ pl_l b i 6 = b) ∨ (0 < pl_a b i 6 ∧ pl_m (pl_l b i 6) 6 < pl_m b 6) := by
  rcases pl_l_or b i 6 with h | ⟨h0, h1, h2⟩
  · exact Or.inl h
  · exact Or.inr ⟨h0, pl_m_lt (pl_l_le b i 6) (Or.inr (by rw [pl_n_0 h1, pl_n_1 h2]; omega)) 6 hi⟩
/-! one pass -/
def pl_s (a : Nat → Int32) : Nat → (Nat → Int32)
  | 0 => a
  | i + 1 => pl_l (pl_l (pl_s a i) (i * 6) 1) i 6
def pl_t (a : Nat → Int32) : Nat → Nat
  | 0 => 0
  | i + 1 => pl_t a i + pl_a (pl_s a i) (i * 6) 1 + pl_a (pl_l (pl_s a i) (i * 6) 1) i 6
theorem pl_s_s (a : Nat → Int32) (i : Nat) : pl_s a (i + 1) = pl_l (pl_l (pl_s a i) (i * 6) 1) i 6 := rfl
theorem pl_t_s (a : Nat → Int32) (i : Nat) : pl_t a (i + 1) = pl_t a i + pl_a (pl_s a i) (i * 6) 1 + pl_a (pl_l (pl_s a i) (i * 6) 1) i 6 := rfl
theorem pl_t_le (a : Nat → Int32) : ∀ i, pl_t a i ≤ 4 * i := by
  intro i
  induction i with
  | zero => exact Nat.le_refl 0
  | succ i ih =>
    have h1 := pl_a_le (pl_s a i) (i * 6) 1
    have h2 := pl_a_le (pl_l (pl_s a i) (i * 6) 1) i 6
    rw [pl_t_s]; omega
theorem pl_s_or (a : Nat → Int32) : ∀ i, i ≤ 6 → (pl_t a i = 0 ∧ pl_s a i = a) ∨ (0 < pl_t a i ∧ pl_m (pl_s a i) 6 < pl_m a 6) := by
  intro i
  induction i with
  | zero => exact fun _ => Or.inl ⟨rfl, rfl⟩
  | succ i ih =>
    intro hi
    have m1 := pl_m_mono (pl_l_le (pl_s a i) (i * 6) 1) 6
    have m2 := pl_m_mono (pl_l_le (pl_l (pl_s a i) (i * 6) 1) i 6) 6
    rw [pl_t_s, pl_s_s]
    rcases ih (by omega) with ⟨h1, h2⟩ | ⟨h1, h2⟩
    · have e2 : pl_m (pl_s a i) 6 = pl_m a 6 := by rw [h2]
      rcases pl_row_or (pl_s a i) (i := i) (by omega) with ⟨h3, h4⟩ | ⟨h3, h4⟩
      · rcases pl_col_or (pl_l (pl_s a i) (i * 6) 1) (i := i) (by omega) with ⟨h5, h6⟩ | ⟨h5, h6⟩
        · exact Or.inl ⟨by omega, by rw [h6, h4, h2]⟩
        · exact Or.inr ⟨by omega, by omega⟩
      · exact Or.inr ⟨by omega, by omega⟩
    · exact Or.inr ⟨by omega, by omega⟩
theorem pl_fix {a : Nat → Int32} (h : pl_t a 6 = 0) : pl_s a 6 = a := by
  rcases pl_s_or a 6 (Nat.le_refl 6) with h' | h'
  · exact h'.2
  · omega
theorem pl_fall {a : Nat → Int32} (h : ¬ pl_t a 6 = 0) : pl_m (pl_s a 6) 6 < pl_m a 6 := by
  rcases pl_s_or a 6 (Nat.le_refl 6) with h' | h'
  · exact absurd h'.1 h
  · exact h'.2
/-! k passes -/
def pl_it : Nat → (Nat → Int32) → (Nat → Int32)
  | 0, a => a
  | k + 1, a => pl_it k (pl_s a 6)
def pl_su : Nat → (Nat → Int32) → Nat
  | 0, _ => 0
  | k + 1, a => pl_t a 6 + pl_su k (pl_s a 6)
theorem pl_it_s (k : Nat) (a : Nat → Int32) : pl_it (k + 1) a = pl_it k (pl_s a 6) := rfl
theorem pl_su_s (k : Nat) (a : Nat → Int32) : pl_su (k + 1) a = pl_t a 6 + pl_su k (pl_s a 6) := rfl
theorem pl_stay {a : Nat → Int32} (h : pl_t a 6 = 0) : ∀ k, pl_it k a = a ∧ pl_su k a = 0 := by
  intro k
  induction k with
  | zero => exact ⟨rfl, rfl⟩
  | succ k ih =>
    have e := pl_fix h
    rw [pl_it_s, pl_su_s, e, h, ih.2]
    exact ⟨ih.1, rfl⟩
end
section
/-! rows pasted from the kit (kit/rows/PURE-ROWS) -/
theorem pk_sub {a b : Nat} (h : b ≤ a) : nI a - nI b = nI (a - b) := by
  obtain ⟨c, rfl⟩ : ∃ c, a = c + b := ⟨a - b, by omega⟩
  rw [← nI_add, Int32.add_sub_cancel, Nat.add_sub_cancel]
theorem pk_mul (a b : Nat) : nI a * nI b = nI (a * b) := (Int32.ofNat_mul a b).symm
theorem pk_div {a d : Nat} (ha : a < 2 ^ 31) (h0 : 0 < d) (hd : d < 2 ^ 31) : nI a / nI d = nI (a / d) := by
  apply Int32.toInt_inj.mp
  rw [lg_idiv_nonneg (by rw [nI_toInt ha]; omega) (by rw [nI_toInt hd]; omega), nI_toInt ha, nI_toInt hd, nI_toInt (Nat.lt_of_le_of_lt (Nat.div_le_self a d) ha)]
  first | rfl | exact (Int.natCast_ediv _ _).symm
theorem pk_rem {a d : Nat} (ha : a < 2 ^ 31) (h0 : 0 < d) (hd : d < 2 ^ 31) : nI a - nI a / nI d * nI d = nI (a % d) := by
  rw [pk_div ha h0 hd, pk_mul, pk_sub (Nat.div_mul_le_self a d)]
  exact congrArg nI (by have := Nat.div_add_mod' a d; omega)
theorem pk_ix (x : Int32) {n : Nat} (hn : n < 2 ^ 31) : x < 0 ∨ nI n ≤ x ∨ ∃ j : Nat, j < n ∧ x = nI j := by
  by_cases h : x < 0
  · exact Or.inl h
  · obtain ⟨j, hj, rfl⟩ := nI_of h
    by_cases h2 : j < n
    · exact Or.inr (Or.inr ⟨j, h2, rfl⟩)
    · exact Or.inr (Or.inl (nI_le (by omega) hj))
theorem pk_le {x y : Int32} {A B : Prop} (a b : Nat) (f : a ≤ b → A) (g : b < a → B) (hx : x = nI a := by rfl) (hy : y = nI b := by rfl) (ha : a < 2 ^ 31 := by omega) (hb : b < 2 ^ 31 := by omega) : (x ≤ y → A) ∧ (¬ x ≤ y → B) := by
  subst hx hy
  rw [nI_leI ha hb]
  exact ⟨f, fun z => g (by omega)⟩
theorem pk_lt {x y : Int32} {A B : Prop} (a b : Nat) (f : a < b → A) (g : b ≤ a → B) (hx : x = nI a := by rfl) (hy : y = nI b := by rfl) (ha : a < 2 ^ 31 := by omega) (hb : b < 2 ^ 31 := by omega) : (x < y → A) ∧ (¬ x < y → B) := by
  subst hx hy
  rw [nI_ltI ha hb]
  exact ⟨f, fun z => g (by omega)⟩
theorem pk_eq {x y : Int32} {A B : Prop} (a b : Nat) (f : a = b → A) (g : a ≠ b → B) (hx : x = nI a := by rfl) (hy : y = nI b := by rfl) (ha : a < 2 ^ 31 := by omega) (hb : b < 2 ^ 31 := by omega) : (x = y → A) ∧ (¬ x = y → B) := by
  subst hx hy
  rw [nI_eq ha hb]
  exact ⟨f, g⟩
theorem pk_in {x : Int32} (n N : Nat) (h : n < N) (hx : x = nI n := by rfl) (hN : N < 2 ^ 31 := by omega) : vp_in x N := by
  subst hx
  exact vp_in_nI h hN
theorem pk_cl {x : Int32} (n : Nat) (hx : x = nI n := by rfl) (h : n < 2 ^ 31 := by omega) : x.toNatClampNeg = n := by
  subst hx
  exact nI_clamp h
theorem pb_0 : vp_nar .boolean 0 = 0 := by decide
theorem pb_1 : vp_nar .boolean 1 = 1 := by decide
end
section
/-! numbers -/
theorem pm_ix (f i s : Nat) : nI f + nI i * nI s = nI (f + i * s) := by rw [pk_mul, nI_add]
theorem pm_m6 (r : Nat) : nI r * 6 = nI (r * 6) := pk_mul r 6
theorem pm_x6 (r c : Nat) : nI r * 6 + nI c = nI (r * 6 + c) := by rw [pm_m6, nI_add]
theorem pm_m4 (r : Nat) : nI r * 4 = nI (r * 4) := pk_mul r 4
theorem pm_x4 (r c : Nat) : nI r * 4 + nI c = nI (r * 4 + c) := by rw [pm_m4, nI_add]
theorem pm_6m (r : Nat) : 6 * nI r = nI (r * 6) := by
  have h : nI 6 * nI r = nI (6 * r) := pk_mul 6 r
  rw [Nat.mul_comm 6 r] at h
  exact h
theorem pm_y6 (r c : Nat) : 6 * nI r + nI c = nI (r * 6 + c) := by rw [pm_6m, nI_add]
theorem pm_4m (r : Nat) : 4 * nI r = nI (r * 4) := by
  have h : nI 4 * nI r = nI (4 * r) := pk_mul 4 r
  rw [Nat.mul_comm 4 r] at h
  exact h
theorem pm_y4 (r c : Nat) : 4 * nI r + nI c = nI (r * 4 + c) := by rw [pm_4m, nI_add]
theorem pm_in (x : Int32) {n : Nat} (hn : n < 2 ^ 31) : (x < 0 ∨ nI n ≤ x) ∨ ∃ j : Nat, j < n ∧ x = nI j := by
  rcases pk_ix x hn with h | h | h
  · exact Or.inl (Or.inl h)
  · exact Or.inl (Or.inr h)
  · exact Or.inr h
/-! the component's small methods -/
theorem xs_in {post : Int32 → Prop} {j : Nat} (h : j < 6) (hp : post 1) : wpX_isOnSide post (nI j) :=
  br_f (nI_pos (by omega)) (br_f (nI_ge (b := 6) h (by decide)) hp)
theorem xs_out {post : Int32 → Prop} {x : Int32} (h : x < 0 ∨ nI 6 ≤ x) (hp : post 0) : wpX_isOnSide post x := by
  rcases h with h | h
  · exact br_t h hp
  · exact br_c (fun _ => hp) (fun _ => br_t h hp)
theorem xd_in {post : Int32 → Prop} {j : Nat} (h : j < 4) (hp : post 1) : wpX_isOnDataSide post (nI j) :=
  br_f (nI_pos (by omega)) (br_f (nI_ge (b := 4) h (by decide)) hp)
theorem xd_out {post : Int32 → Prop} {x : Int32} (h : x < 0 ∨ nI 4 ≤ x) (hp : post 0) : wpX_isOnDataSide post x := by
  rcases h with h | h
  · exact br_t h hp
  · exact br_c (fun _ => hp) (fun _ => br_t h hp)
theorem xs_cell {post : Int32 → Prop} {r c : Nat} (h : post (nI (r * 6 + c))) : wpX_cellPlace post (nI r) (nI c) := by
  unfold wpX_cellPlace
  rw [pm_x6]
  exact h
theorem xs_val {post : Int32 → Prop} {r c : Nat} (h : post (nI (r * 4 + c))) : wpX_valuePlace post (nI r) (nI c) := by
  unfold wpX_valuePlace
  rw [pm_x4]
  exact h
theorem xs_can {post : Int32 → Prop} (vals g : Nat → Int32) {r c : Nat} (hr : r < 4) (hc : c < 4) (h0 : g (r * 6 + c) = 0 → post 1) (h1 : ¬ g (r * 6 + c) = 0 → post 0) : wpX_canBeRead post (vals, g) (nI r) (nI c) := by
  unfold wpX_canBeRead
  dsimp only
  refine xd_in hr (br_f (by decide) (xd_in hc (br_f (by decide) (xs_cell ?_))))
  rw [nI_clamp (by omega)]
  exact ⟨vp_in_nI (by omega) (by decide), h0, h1⟩
theorem xs_can_o1 {post : Int32 → Prop} {vals g : Nat → Int32} {x y : Int32} (h : x < 0 ∨ nI 4 ≤ x) (hp : post 0) : wpX_canBeRead post (vals, g) x y := by
  unfold wpX_canBeRead
  dsimp only
  exact xd_out h (br_t rfl hp)
theorem xs_can_o2 {post : Int32 → Prop} {vals g : Nat → Int32} {r : Nat} {y : Int32} (hr : r < 4) (h : y < 0 ∨ nI 4 ≤ y) (hp : post 0) : wpX_canBeRead post (vals, g) (nI r) y := by
  unfold wpX_canBeRead
  dsimp only
  exact xd_in hr (br_f (by decide) (xd_out h (br_t rfl hp)))
/-! read, write -/
theorem xr_read {post : Int32 → Prop} (vals g : Nat → Int32) {r c : Nat} (hr : r < 4) (hc : c < 4) (h0 : g (r * 6 + c) = 0 → post (vals (r * 4 + c))) (h1 : ¬ g (r * 6 + c) = 0 → post (-1)) : wpX_read post (vals, g) (nI r) (nI c) := by
  unfold wpX_read
  dsimp only
  refine xs_can vals g hr hc (fun z => br_f (by decide) (xs_val ?_)) (fun z => br_t rfl (h1 z))
  rw [nI_clamp (by omega)]
  exact ⟨vp_in_nI (by omega) (by decide), h0 z⟩
theorem xr_read_o1 {post : Int32 → Prop} {vals g : Nat → Int32} {x y : Int32} (h : x < 0 ∨ nI 4 ≤ x) (hp : post (-1)) : wpX_read post (vals, g) x y := by
  unfold wpX_read
  dsimp only
  exact xs_can_o1 h (br_t rfl hp)
theorem xr_read_o2 {post : Int32 → Prop} {vals g : Nat → Int32} {r : Nat} {y : Int32} (hr : r < 4) (h : y < 0 ∨ nI 4 ≤ y) (hp : post (-1)) : wpX_read post (vals, g) (nI r) y := by
  unfold wpX_read
  dsimp only
  exact xs_can_o2 hr h (br_t rfl hp)
theorem xr_write {post : Int32 → SX → Prop} (vals g : Nat → Int32) {r c : Nat} (p : Int32) (hr : r < 4) (hc : c < 4) (h0 : g (r * 6 + c) = 0 → post (vals (r * 4 + c)) (upd vals (r * 4 + c) (p &&& 255), g)) (h1 : ¬ g (r * 6 + c) = 0 → post (-1) (vals, g)) : wpX_write post (vals, g) (nI r) (nI c) p := by
  unfold wpX_write
  dsimp only
  refine xs_can vals g hr hc (fun z => br_f (by decide) (xs_val ?_)) (fun z => br_t rfl (h1 z))
  rw [nI_clamp (by omega)]
  exact ⟨vp_in_nI (by omega) (by decide), nm_e ⟨vp_in_nI (by omega) (by decide), nm_e (h0 z)⟩⟩
theorem xr_write_o1 {post : Int32 → SX → Prop} {vals g : Nat → Int32} {x y p : Int32} (h : x < 0 ∨ nI 4 ≤ x) (hp : post (-1) (vals, g)) : wpX_write post (vals, g) x y p := by
  unfold wpX_write
  dsimp only
  exact xs_can_o1 h (br_t rfl hp)
theorem xr_write_o2 {post : Int32 → SX → Prop} {vals g : Nat → Int32} {r : Nat} {y p : Int32} (hr : r < 4) (h : y < 0 ∨ nI 4 ≤ y) (hp : post (-1) (vals, g)) : wpX_write post (vals, g) (nI r) y p := by
  unfold wpX_write
  dsimp only
  exact xs_can_o2 hr h (br_t rfl hp)
/-! lose, lost -/
theorem xr_lose36 {post : Int32 → SX → Prop} (z0 : Int32) (vals g : Nat → Int32) {p : Nat} (hp36 : p < 36) (hp : post z0 (vals, upd g p 1)) : wX_lose_36 post (nI p) z0 vals g := by
  unfold wX_lose_36
  rw [nI_clamp (by omega), pb_1]
  exact ⟨vp_in_nI hp36 (by decide), nm_e hp⟩
theorem xr_lose {post : Int32 → SX → Prop} (vals g : Nat → Int32) {r c : Nat} (hr : r < 6) (hc : c < 6) (h0 : g (r * 6 + c) = 0 → post 1 (vals, upd g (r * 6 + c) 1)) (h1 : ¬ g (r * 6 + c) = 0 → post 0 (vals, upd g (r * 6 + c) 1)) : wpX_lose post (vals, g) (nI r) (nI c) := by
  unfold wpX_lose
  dsimp only
  refine xs_in hr (br_f (by decide) (xs_in hc (br_f (by decide) (xs_cell ?_))))
  rw [nI_clamp (by omega)]
  exact ⟨vp_in_nI (by omega) (by decide), br_c (fun z => xr_lose36 1 vals g (by omega) (h0 z)) (fun z => xr_lose36 0 vals g (by omega) (h1 z))⟩
theorem xr_lose_o1 {post : Int32 → SX → Prop} {vals g : Nat → Int32} {x y : Int32} (h : x < 0 ∨ nI 6 ≤ x) (hp : post (-1) (vals, g)) : wpX_lose post (vals, g) x y := by
  unfold wpX_lose
  dsimp only
  exact xs_out h (br_t rfl hp)
theorem xr_lose_o2 {post : Int32 → SX → Prop} {vals g : Nat → Int32} {r : Nat} {y : Int32} (hr : r < 6) (h : y < 0 ∨ nI 6 ≤ y) (hp : post (-1) (vals, g)) : wpX_lose post (vals, g) (nI r) y := by
  unfold wpX_lose
  dsimp only
  exact xs_in hr (br_f (by decide) (xs_out h (br_t rfl hp)))
theorem xr_lost {post : Int32 → Prop} (vals g : Nat → Int32) {r c : Nat} (hr : r < 6) (hc : c < 6) (h0 : g (r * 6 + c) = 0 → post 0) (h1 : ¬ g (r * 6 + c) = 0 → post 1) : wpX_lost post (vals, g) (nI r) (nI c) := by
  unfold wpX_lost
  dsimp only
  refine xs_in hr (br_f (by decide) (xs_in hc (br_f (by decide) (xs_cell ?_))))
  rw [nI_clamp (by omega)]
  exact ⟨vp_in_nI (by omega) (by decide), h0, h1⟩
theorem xr_lost_o1 {post : Int32 → Prop} {vals g : Nat → Int32} {x y : Int32} (h : x < 0 ∨ nI 6 ≤ x) (hp : post (-1)) : wpX_lost post (vals, g) x y := by
  unfold wpX_lost
  dsimp only
  exact xs_out h (br_t rfl hp)
theorem xr_lost_o2 {post : Int32 → Prop} {vals g : Nat → Int32} {r : Nat} {y : Int32} (hr : r < 6) (h : y < 0 ∨ nI 6 ≤ y) (hp : post (-1)) : wpX_lost post (vals, g) (nI r) y := by
  unfold wpX_lost
  dsimp only
  exact xs_in hr (br_f (by decide) (xs_out h (br_t rfl hp)))
/-! lines: count, set, lose, mend -/
theorem xl_loop {post : Int32 → Prop} (vals g : Nat → Int32) {f s : Nat} (hf : f + 5 * s < 36) (hp : post (nI (pl_c g f s 6))) : ∀ d i, i + d = 6 → wX_lostInLine_5 post (nI f) (nI s) vals g (d + 1) (nI (pl_c g f s i)) (nI i) := by
  intro d
  induction d with
  | zero =>
    intro i hi
    obtain rfl : i = 6 := by omega
    exact br_t (nI_le (b := 6) (Nat.le_refl 6) (by decide)) hp
  | succ d ih =>
    intro i hi
    have hix : i * s ≤ 5 * s := Nat.mul_le_mul_right s (by omega)
    have e := pm_ix f i s
    have ec : (nI f + nI i * nI s).toNatClampNeg = f + i * s := by rw [e]; exact nI_clamp (by omega)
    have hin : vp_in (nI f + nI i * nI s) 36 := by rw [e]; exact vp_in_nI (by omega) (by decide)
    refine br_f (nI_ge (b := 6) (by omega) (by decide)) ⟨hin, ?_⟩
    rw [ec]
    have h := ih (i + 1) (by omega)
    by_cases z : g (f + i * s) = 0
    · rw [pl_c_s0 z] at h
      exact br_t z (nm_r (nI_1 i) h)
    · rw [pl_c_s1 z] at h
      exact br_f z (nm_r (nI_1 _) (nm_r (nI_1 i) h))
theorem xl_lost {post : Int32 → Prop} (vals g : Nat → Int32) {f s : Nat} (hf : f + 5 * s < 36) (hp : post (nI (pl_c g f s 6))) : wpX_lostInLine post (vals, g) (nI f) (nI s) :=
  ⟨7, xl_loop vals g hf hp 6 0 rfl⟩
theorem xm_loop {post : SX → Prop} (vals g : Nat → Int32) {f s : Nat} (x : Int32) (hx : vp_nar .boolean x = x) (hf : f + 5 * s < 36) (hp : post (vals, pl_k g f s x 6)) : ∀ d i, i + d = 6 → wX_markLine_3 post (nI f) (nI s) x (d + 1) (nI i) vals (pl_k g f s x i) := by
  intro d
  induction d with
  | zero =>
    intro i hi
    obtain rfl : i = 6 := by omega
    exact br_t (nI_le (b := 6) (Nat.le_refl 6) (by decide)) hp
  | succ d ih =>
    intro i hi
    have hix : i * s ≤ 5 * s := Nat.mul_le_mul_right s (by omega)
    have e := pm_ix f i s
    have ec : (nI f + nI i * nI s).toNatClampNeg = f + i * s := by rw [e]; exact nI_clamp (by omega)
    have hin : vp_in (nI f + nI i * nI s) 36 := by rw [e]; exact vp_in_nI (by omega) (by decide)
    have eu : upd (pl_k g f s x i) (nI f + nI i * nI s).toNatClampNeg (vp_nar .boolean x) = pl_k g f s x (i + 1) := by rw [ec, hx]; rfl
    exact br_f (nI_ge (b := 6) (by omega) (by decide)) ⟨hin, nm_r eu (nm_r (nI_1 i) (ih (i + 1) (by omega)))⟩
theorem xm_mark {post : SX → Prop} (vals g : Nat → Int32) {f s : Nat} (x : Int32) (hx : vp_nar .boolean x = x) (hf : f + 5 * s < 36) (hp : post (vals, pl_k g f s x 6)) : wpX_markLine post (vals, g) (nI f) (nI s) x :=
  ⟨7, xm_loop vals g x hx hf hp 6 0 rfl⟩
theorem xm_lose {post : Int32 → SX → Prop} (vals g : Nat → Int32) {f s : Nat} (hf : f + 5 * s < 36) (hp : post (nI (6 - pl_c g f s 6)) (vals, pl_k g f s 1 6)) : wpX_loseLine post (vals, g) (nI f) (nI s) := by
  have e : (6 : Int32) - nI (pl_c g f s 6) = nI (6 - pl_c g f s 6) := pk_sub (a := 6) (pl_c_le g f s 6)
  rw [← e] at hp
  unfold wpX_loseLine
  dsimp only
  refine xl_lost vals g hf ?_
  exact xm_mark vals g 1 pb_1 hf hp
theorem xm_line {post : Int32 → SX → Prop} (vals g : Nat → Int32) {f s : Nat} (hf : f + 5 * s < 36) (hp : post (nI (pl_a g f s)) (vals, pl_l g f s)) : wpX_mendLine post (vals, g) (nI f) (nI s) := by
  unfold wpX_mendLine
  dsimp only
  refine xl_lost vals g hf ?_
  by_cases h : pl_c g f s 6 ≤ 2
  · rw [pl_a_t h, pl_l_t h] at hp
    exact br_t (nI_le (b := 2) h (by decide)) (xm_mark vals g 0 pb_0 hf hp)
  · rw [pl_a_f h, pl_l_f h] at hp
    have hle := pl_c_le g f s 6
    exact br_f (nI_ge (a := 2) (by omega) (by omega)) hp
end
section
/-! the component's rows and columns, passes, mend -/
theorem xr_loseRow {post : Int32 → SX → Prop} (vals g : Nat → Int32) {r : Nat} (hr : r < 6) (hp : post (nI (6 - pl_c g (r * 6) 1 6)) (vals, pl_k g (r * 6) 1 1 6)) : wpX_loseRow post (vals, g) (nI r) := by
  unfold wpX_loseRow
  dsimp only
  refine xs_in hr (br_f (by decide) ?_)
  rw [pm_m6 r]
  exact xm_lose (s := 1) vals g (by omega) hp
theorem xr_loseRow_o {post : Int32 → SX → Prop} {vals g : Nat → Int32} {x : Int32} (h : x < 0 ∨ nI 6 ≤ x) (hp : post (-1) (vals, g)) : wpX_loseRow post (vals, g) x := by
  unfold wpX_loseRow
  dsimp only
  exact xs_out h (br_t rfl hp)
theorem xr_loseCol {post : Int32 → SX → Prop} (vals g : Nat → Int32) {r : Nat} (hr : r < 6) (hp : post (nI (6 - pl_c g r 6 6)) (vals, pl_k g r 6 1 6)) : wpX_loseColumn post (vals, g) (nI r) := by
  unfold wpX_loseColumn
  dsimp only
  refine xs_in hr (br_f (by decide) ?_)
  exact xm_lose (s := 6) vals g (by omega) hp
theorem xr_loseCol_o {post : Int32 → SX → Prop} {vals g : Nat → Int32} {x : Int32} (h : x < 0 ∨ nI 6 ≤ x) (hp : post (-1) (vals, g)) : wpX_loseColumn post (vals, g) x := by
  unfold wpX_loseColumn
  dsimp only
  exact xs_out h (br_t rfl hp)
theorem xr_mendRow {post : Int32 → SX → Prop} (vals g : Nat → Int32) {r : Nat} (hr : r < 6) (hp : post (nI (pl_a g (r * 6) 1)) (vals, pl_l g (r * 6) 1)) : wpX_mendRow post (vals, g) (nI r) := by
  unfold wpX_mendRow
  dsimp only
  refine xs_in hr (br_f (by decide) ?_)
  rw [pm_m6 r]
  exact xm_line (s := 1) vals g (by omega) hp
theorem xr_mendRow_o {post : Int32 → SX → Prop} {vals g : Nat → Int32} {x : Int32} (h : x < 0 ∨ nI 6 ≤ x) (hp : post (-1) (vals, g)) : wpX_mendRow post (vals, g) x := by
  unfold wpX_mendRow
  dsimp only
  exact xs_out h (br_t rfl hp)
theorem xr_mendCol {post : Int32 → SX → Prop} (vals g : Nat → Int32) {r : Nat} (hr : r < 6) (hp : post (nI (pl_a g r 6)) (vals, pl_l g r 6)) : wpX_mendColumn post (vals, g) (nI r) := by
  unfold wpX_mendColumn
  dsimp only
  refine xs_in hr (br_f (by decide) ?_)
  exact xm_line (s := 6) vals g (by omega) hp
theorem xr_mendCol_o {post : Int32 → SX → Prop} {vals g : Nat → Int32} {x : Int32} (h : x < 0 ∨ nI 6 ≤ x) (hp : post (-1) (vals, g)) : wpX_mendColumn post (vals, g) x := by
  unfold wpX_mendColumn
  dsimp only
  exact xs_out h (br_t rfl hp)
theorem xp_loop {post : Int32 → SX → Prop} (vals g : Nat → Int32) (hp : post (nI (pl_t g 6)) (vals, pl_s g 6)) : ∀ d i, i + d = 6 → wX_mendEachLineOnce_4 post (d + 1) (nI (pl_t g i)) (nI i) vals (pl_s g i) := by
  intro d
  induction d with
  | zero =>
    intro i hi
    obtain rfl : i = 6 := by omega
    exact br_t (nI_le (b := 6) (Nat.le_refl 6) (by decide)) hp
  | succ d ih =>
    intro i hi
    refine br_f (nI_ge (b := 6) (by omega) (by decide)) ?_
    rw [pm_m6 i]
    refine xm_line (s := 1) vals (pl_s g i) (by omega) ?_
    dsimp only
    refine nm_r (nI_add _ _) ?_
    refine xm_line (s := 6) vals (pl_l (pl_s g i) (i * 6) 1) (by omega) ?_
    dsimp only
    exact nm_r (nI_add _ _) (nm_r (nI_1 i) (ih (i + 1) (by omega)))
theorem xp_pass {post : Int32 → SX → Prop} (vals g : Nat → Int32) (hp : post (nI (pl_t g 6)) (vals, pl_s g 6)) : wpX_mendEachLineOnce post (vals, g) :=
  ⟨7, xp_loop vals g hp 6 0 rfl⟩
theorem xq_loop {post : Int32 → SX → Prop} (vals : Nat → Int32) : ∀ (d i s : Nat) (g : Nat → Int32), i + d = 12 → post (nI (s + pl_su d g)) (vals, pl_it d g) → wX_mend_4 post (d + 1) (nI s) (nI i) vals g := by
  intro d
  induction d with
  | zero =>
    intro i s g hi hp
    obtain rfl : i = 12 := by omega
    exact br_t (nI_le (b := 12) (Nat.le_refl 12) (by decide)) hp
  | succ d ih =>
    intro i s g hi hp
    rw [pl_su_s, pl_it_s, ← Nat.add_assoc] at hp
    refine br_f (nI_ge (b := 12) (by omega) (by decide)) ?_
    refine xp_pass vals g ?_
    dsimp only
    exact nm_r (nI_add _ _) (nm_r (nI_1 i) (ih (i + 1) (s + pl_t g 6) (pl_s g 6) (by omega) hp))
theorem xq_mend {post : Int32 → SX → Prop} (vals g : Nat → Int32) (hp : post (nI (pl_su 12 g)) (vals, pl_it 12 g)) : wpX_mend post (vals, g) := by
  rw [← Nat.zero_add (pl_su 12 g)] at hp
  exact ⟨13, xq_loop vals 12 0 0 g rfl hp⟩
/-! losses, total -/
def pl_o (g : Nat → Int32) : Nat → Int32
  | 0 => 0
  | i + 1 => if g i = 0 then pl_o g i else pl_o g i + 1
theorem pl_o_0 {g : Nat → Int32} {i : Nat} (h : g i = 0) : pl_o g (i + 1) = pl_o g i := if_pos h
theorem pl_o_1 {g : Nat → Int32} {i : Nat} (h : ¬ g i = 0) : pl_o g (i + 1) = pl_o g i + 1 := if_neg h
theorem xo_loop {post : Int32 → Prop} (vals g : Nat → Int32) (hp : post (pl_o g 36)) : ∀ d i, i + d = 36 → wX_losses_4 post vals g (d + 1) (pl_o g i) (nI i) := by
  intro d
  induction d with
  | zero =>
    intro i hi
    obtain rfl : i = 36 := by omega
    exact br_t (nI_le (b := 36) (Nat.le_refl 36) (by decide)) hp
  | succ d ih =>
    intro i hi
    have ec : (nI i).toNatClampNeg = i := nI_clamp (by omega)
    refine br_f (nI_ge (b := 36) (by omega) (by decide)) ⟨vp_in_nI (by omega) (by decide), ?_⟩
    rw [ec]
    have h := ih (i + 1) (by omega)
    by_cases z : g i = 0
    · rw [pl_o_0 z] at h
      exact br_t z (nm_r (nI_1 i) h)
    · rw [pl_o_1 z] at h
      exact br_f z (nm_e (nm_r (nI_1 i) h))
theorem xo_losses {post : Int32 → Prop} (vals g : Nat → Int32) (hp : post (pl_o g 36)) : wpX_losses post (vals, g) :=
  ⟨37, xo_loop vals g hp 36 0 rfl⟩
def pl_v (v g : Nat → Int32) : Nat → Int32
  | 0 => 0
  | i + 1 => if g (i / 4 * 6 + i % 4) = 0 then pl_v v g i + v i else pl_v v g i
theorem pl_v_0 {v g : Nat → Int32} {i : Nat} (h : g (i / 4 * 6 + i % 4) = 0) : pl_v v g (i + 1) = pl_v v g i + v i := if_pos h
theorem pl_v_1 {v g : Nat → Int32} {i : Nat} (h : ¬ g (i / 4 * 6 + i % 4) = 0) : pl_v v g (i + 1) = pl_v v g i := if_neg h
theorem pl_v_ix {r c : Nat} (hc : c < 4) : (r * 4 + c) / 4 * 6 + (r * 4 + c) % 4 = r * 6 + c := by omega
theorem xt_in {post : Int32 → Prop} {J : Int32 → Int32 → Prop} (v g : Nat → Int32) {r : Nat} (hr : r < 4) (hJ : J (pl_v v g (r * 4 + 4)) (nI (r + 1))) : ∀ d c, c + d = 4 → wX_total_11 post J (nI r) v g (d + 1) (pl_v v g (r * 4 + c)) (nI c) := by
  intro d
  induction d with
  | zero =>
    intro c hc
    obtain rfl : c = 4 := by omega
    exact br_t (nI_le (b := 4) (Nat.le_refl 4) (by decide)) (nm_r (nI_1 r) hJ)
  | succ d ih =>
    intro c hc
    have h := ih (c + 1) (by omega)
    have ei := pl_v_ix (r := r) (c := c) (by omega)
    refine br_f (nI_ge (b := 4) (by omega) (by decide)) ?_
    refine xs_can v g hr (by omega) (fun z => br_f (by decide) (xs_val ?_)) (fun z => br_t rfl (nm_r (nI_1 c) ?_))
    · have e : pl_v v g (r * 4 + (c + 1)) = pl_v v g (r * 4 + c) + v (r * 4 + c) := pl_v_0 (i := r * 4 + c) (by rw [ei]; exact z)
      rw [e] at h
      rw [nI_clamp (by omega)]
      exact ⟨vp_in_nI (by omega) (by decide), nm_e (nm_r (nI_1 c) h)⟩
    · have e : pl_v v g (r * 4 + (c + 1)) = pl_v v g (r * 4 + c) := pl_v_1 (i := r * 4 + c) (by rw [ei]; exact z)
      rw [e] at h
      exact h
theorem xt_loop {post : Int32 → Prop} (v g : Nat → Int32) (hp : post (pl_v v g 16)) : ∀ d r, r + d = 4 → wX_total_4 post v g (d + 1) (pl_v v g (r * 4)) (nI r) := by
  intro d
  induction d with
  | zero =>
    intro r hr
    obtain rfl : r = 4 := by omega
    exact br_t (nI_le (b := 4) (Nat.le_refl 4) (by decide)) hp
  | succ d ih =>
    intro r hr
    have h := ih (r + 1) (by omega)
    rw [show (r + 1) * 4 = r * 4 + 4 by omega] at h
    exact br_f (nI_ge (b := 4) (by omega) (by decide)) ⟨5, xt_in v g (by omega) h 4 0 rfl⟩
theorem xt_total {post : Int32 → Prop} (v g : Nat → Int32) (hp : post (pl_v v g 16)) : wpX_total post (v, g) :=
  ⟨5, xt_loop v g hp 4 0 rfl⟩
end
section
/-! the reference -/
theorem ys_in {post : Int32 → Prop} {j m : Nat} (h : j ≤ m) (hm : m < 2 ^ 31) (hp : post 0) : wpY_outside post (nI j) (nI m) :=
  br_f (nI_pos (by omega)) (br_t (nI_le h hm) hp)
theorem ys_out {post : Int32 → Prop} {x : Int32} (m : Nat) (hm : m + 1 < 2 ^ 31) (h : x < 0 ∨ nI (m + 1) ≤ x) (hp : post 1) : wpY_outside post x (nI m) := by
  rcases h with h | h
  · exact br_t h hp
  · refine br_c (fun _ => hp) (fun h0 => ?_)
    obtain ⟨j, hj, rfl⟩ := nI_of h0
    rw [nI_leI hm hj] at h
    exact br_f (nI_ge (by omega) hj) hp
theorem yr_read {post : Int32 → Prop} (vals g : Nat → Int32) {r c : Nat} (hr : r < 4) (hc : c < 4) (h0 : g (r * 6 + c) = 0 → post (vals (r * 4 + c))) (h1 : ¬ g (r * 6 + c) = 0 → post (-1)) : wpY_read post (vals, g) (nI r) (nI c) := by
  unfold wpY_read
  dsimp only
  refine ys_in (m := 3) (by omega) (by decide) (br_t rfl (ys_in (m := 3) (by omega) (by decide) (br_t rfl ?_)))
  rw [pm_y6 r c, pm_y4 r c, nI_clamp (n := r * 6 + c) (by omega), nI_clamp (n := r * 4 + c) (by omega)]
  exact ⟨vp_in_nI (by omega) (by decide), br_c (fun z => ⟨vp_in_nI (by omega) (by decide), h0 z⟩) h1⟩
theorem yr_read_o1 {post : Int32 → Prop} {vals g : Nat → Int32} {x y : Int32} (h : x < 0 ∨ nI 4 ≤ x) (hp : post (-1)) : wpY_read post (vals, g) x y := by
  unfold wpY_read
  dsimp only
  exact ys_out 3 (by decide) h (br_f (by decide) hp)
theorem yr_read_o2 {post : Int32 → Prop} {vals g : Nat → Int32} {r : Nat} {y : Int32} (hr : r < 4) (h : y < 0 ∨ nI 4 ≤ y) (hp : post (-1)) : wpY_read post (vals, g) (nI r) y := by
  unfold wpY_read
  dsimp only
  exact ys_in (m := 3) (by omega) (by decide) (br_t rfl (ys_out 3 (by decide) h (br_f (by decide) hp)))
theorem yr_write {post : Int32 → SY → Prop} (vals g : Nat → Int32) {r c : Nat} (p : Int32) (hr : r < 4) (hc : c < 4) (h0 : g (r * 6 + c) = 0 → post (vals (r * 4 + c)) (upd vals (r * 4 + c) (p &&& 255), g)) (h1 : ¬ g (r * 6 + c) = 0 → post (-1) (vals, g)) : wpY_write post (vals, g) (nI r) (nI c) p := by
  unfold wpY_write
  dsimp only
  refine ys_in (m := 3) (by omega) (by decide) (br_t rfl (ys_in (m := 3) (by omega) (by decide) (br_t rfl ?_)))
  rw [pm_y6 r c, pm_y4 r c, nI_clamp (n := r * 6 + c) (by omega), nI_clamp (n := r * 4 + c) (by omega)]
  exact ⟨vp_in_nI (by omega) (by decide), br_c (fun z => ⟨vp_in_nI (by omega) (by decide), nm_e ⟨vp_in_nI (by omega) (by decide), nm_e (h0 z)⟩⟩) h1⟩
theorem yr_write_o1 {post : Int32 → SY → Prop} {vals g : Nat → Int32} {x y p : Int32} (h : x < 0 ∨ nI 4 ≤ x) (hp : post (-1) (vals, g)) : wpY_write post (vals, g) x y p := by
  unfold wpY_write
  dsimp only
  exact ys_out 3 (by decide) h (br_f (by decide) hp)
theorem yr_write_o2 {post : Int32 → SY → Prop} {vals g : Nat → Int32} {r : Nat} {y p : Int32} (hr : r < 4) (h : y < 0 ∨ nI 4 ≤ y) (hp : post (-1) (vals, g)) : wpY_write post (vals, g) (nI r) y p := by
  unfold wpY_write
  dsimp only
  exact ys_in (m := 3) (by omega) (by decide) (br_t rfl (ys_out 3 (by decide) h (br_f (by decide) hp)))
theorem yr_lose37 {post : Int32 → SY → Prop} (z0 : Int32) (vals g : Nat → Int32) {r c : Nat} (p : Nat) (e : r * 6 + c = p) (hp36 : p < 36) (hp : post z0 (vals, upd g p 1)) : wY_lose_37 post (nI r) (nI c) z0 vals g := by
  unfold wY_lose_37
  rw [pm_y6 r c, e, nI_clamp (by omega), pb_1]
  exact ⟨vp_in_nI hp36 (by decide), nm_e hp⟩
theorem yr_lose {post : Int32 → SY → Prop} (vals g : Nat → Int32) {r c : Nat} (p : Nat) (e : r * 6 + c = p) (hr : r < 6) (hc : c < 6) (h0 : g p = 0 → post 1 (vals, upd g p 1)) (h1 : ¬ g p = 0 → post 0 (vals, upd g p 1)) : wpY_lose post (vals, g) (nI r) (nI c) := by
  have hp36 : p < 36 := by omega
  unfold wpY_lose
  dsimp only
  refine ys_in (m := 5) (by omega) (by decide) (br_t rfl (ys_in (m := 5) (by omega) (by decide) (br_t rfl ?_)))
  rw [pm_y6 r c, e, nI_clamp (n := p) (by omega)]
  exact ⟨vp_in_nI hp36 (by decide), br_c (fun z => yr_lose37 1 vals g p e hp36 (h0 z)) (fun z => yr_lose37 0 vals g p e hp36 (h1 z))⟩
theorem yr_lose_o1 {post : Int32 → SY → Prop} {vals g : Nat → Int32} {x y : Int32} (h : x < 0 ∨ nI 6 ≤ x) (hp : post (-1) (vals, g)) : wpY_lose post (vals, g) x y := by
  unfold wpY_lose
  dsimp only
  exact ys_out 5 (by decide) h (br_f (by decide) hp)
theorem yr_lose_o2 {post : Int32 → SY → Prop} {vals g : Nat → Int32} {r : Nat} {y : Int32} (hr : r < 6) (h : y < 0 ∨ nI 6 ≤ y) (hp : post (-1) (vals, g)) : wpY_lose post (vals, g) (nI r) y := by
  unfold wpY_lose
  dsimp only
  exact ys_in (m := 5) (by omega) (by decide) (br_t rfl (ys_out 5 (by decide) h (br_f (by decide) hp)))
theorem yr_lost {post : Int32 → Prop} (vals g : Nat → Int32) {r c : Nat} (hr : r < 6) (hc : c < 6) (h0 : g (r * 6 + c) = 0 → post 0) (h1 : ¬ g (r * 6 + c) = 0 → post 1) : wpY_lost post (vals, g) (nI r) (nI c) := by
  unfold wpY_lost
  dsimp only
  refine ys_in (m := 5) (by omega) (by decide) (br_t rfl (ys_in (m := 5) (by omega) (by decide) (br_t rfl ?_)))
  rw [pm_y6 r c, nI_clamp (by omega)]
  exact ⟨vp_in_nI (by omega) (by decide), h0, h1⟩
theorem yr_lost_o1 {post : Int32 → Prop} {vals g : Nat → Int32} {x y : Int32} (h : x < 0 ∨ nI 6 ≤ x) (hp : post (-1)) : wpY_lost post (vals, g) x y := by
  unfold wpY_lost
  dsimp only
  exact ys_out 5 (by decide) h (br_f (by decide) hp)
theorem yr_lost_o2 {post : Int32 → Prop} {vals g : Nat → Int32} {r : Nat} {y : Int32} (hr : r < 6) (h : y < 0 ∨ nI 6 ≤ y) (hp : post (-1)) : wpY_lost post (vals, g) (nI r) y := by
  unfold wpY_lost
  dsimp only
  exact ys_in (m := 5) (by omega) (by decide) (br_t rfl (ys_out 5 (by decide) h (br_f (by decide) hp)))
/-! lines lost -/
theorem yz_row {post : Int32 → SY → Prop} (vals g : Nat → Int32) {r : Nat} (hr : r < 6) (hp : post (nI (6 - pl_c g (r * 6) 1 6)) (vals, pl_k g (r * 6) 1 1 6)) : ∀ d i, i + d = 6 → wY_loseRow_14 post (nI r) (d + 1) (nI (i - pl_c g (r * 6) 1 i)) (nI i) vals (pl_k g (r * 6) 1 1 i) := by
  intro d
  induction d with
  | zero =>
    intro i hi
    obtain rfl : i = 6 := by omega
    exact br_t (nI_le (b := 6) (Nat.le_refl 6) (by decide)) hp
  | succ d ih =>
    intro i hi
    have hle := pl_c_le g (r * 6) 1 i
    have ho := pl_k_off g (r * 6) (s := 1) 1 (by decide) i i (Nat.le_refl i)
    have h := ih (i + 1) (by omega)
    refine br_f (nI_ge (b := 6) (by omega) (by decide)) ?_
    refine yr_lose vals (pl_k g (r * 6) 1 1 i) (r * 6 + i * 1) (by omega) hr (by omega) (fun z => ?_) (fun z => ?_)
    · rw [ho] at z
      have e : nI (i - pl_c g (r * 6) 1 i) + 1 = nI (i + 1 - pl_c g (r * 6) 1 (i + 1)) := by
        rw [nI_1, pl_c_s0 z]
        exact congrArg nI (by omega)
      exact nm_r e (nm_r (nI_1 i) h)
    · rw [ho] at z
      have e : nI (i - pl_c g (r * 6) 1 i) + 0 = nI (i + 1 - pl_c g (r * 6) 1 (i + 1)) := by
        rw [Int32.add_zero, pl_c_s1 z]
        exact congrArg nI (by omega)
      exact nm_r e (nm_r (nI_1 i) h)
theorem yz_col {post : Int32 → SY → Prop} (vals g : Nat → Int32) {r : Nat} (hr : r < 6) (hp : post (nI (6 - pl_c g r 6 6)) (vals, pl_k g r 6 1 6)) : ∀ d i, i + d = 6 → wY_loseColumn_14 post (nI r) (d + 1) (nI (i - pl_c g r 6 i)) (nI i) vals (pl_k g r 6 1 i) := by
  intro d
  induction d with
  | zero =>
    intro i hi
    obtain rfl : i = 6 := by omega
    exact br_t (nI_le (b := 6) (Nat.le_refl 6) (by decide)) hp
  | succ d ih =>
    intro i hi
    have hle := pl_c_le g r 6 i
    have ho := pl_k_off g r (s := 6) 1 (by decide) i i (Nat.le_refl i)
    have h := ih (i + 1) (by omega)
    refine br_f (nI_ge (b := 6) (by omega) (by decide)) ?_
    refine yr_lose vals (pl_k g r 6 1 i) (r + i * 6) (by omega) (by omega) hr (fun z => ?_) (fun z => ?_)
    · rw [ho] at z
      have e : nI (i - pl_c g r 6 i) + 1 = nI (i + 1 - pl_c g r 6 (i + 1)) := by
        rw [nI_1, pl_c_s0 z]
        exact congrArg nI (by omega)
      exact nm_r e (nm_r (nI_1 i) h)
    · rw [ho] at z
      have e : nI (i - pl_c g r 6 i) + 0 = nI (i + 1 - pl_c g r 6 (i + 1)) := by
        rw [Int32.add_zero, pl_c_s1 z]
        exact congrArg nI (by omega)
      exact nm_r e (nm_r (nI_1 i) h)
theorem yr_loseRow {post : Int32 → SY → Prop} (vals g : Nat → Int32) {r : Nat} (hr : r < 6) (hp : post (nI (6 - pl_c g (r * 6) 1 6)) (vals, pl_k g (r * 6) 1 1 6)) : wpY_loseRow post (vals, g) (nI r) := by
  unfold wpY_loseRow
  dsimp only
  exact ys_in (m := 5) (by omega) (by decide) (br_t rfl ⟨7, yz_row vals g hr hp 6 0 rfl⟩)
theorem yr_loseRow_o {post : Int32 → SY → Prop} {vals g : Nat → Int32} {x : Int32} (h : x < 0 ∨ nI 6 ≤ x) (hp : post (-1) (vals, g)) : wpY_loseRow post (vals, g) x := by
  unfold wpY_loseRow
  dsimp only
  exact ys_out 5 (by decide) h (br_f (by decide) hp)
theorem yr_loseCol {post : Int32 → SY → Prop} (vals g : Nat → Int32) {r : Nat} (hr : r < 6) (hp : post (nI (6 - pl_c g r 6 6)) (vals, pl_k g r 6 1 6)) : wpY_loseColumn post (vals, g) (nI r) := by
  unfold wpY_loseColumn
  dsimp only
  exact ys_in (m := 5) (by omega) (by decide) (br_t rfl ⟨7, yz_col vals g hr hp 6 0 rfl⟩)
theorem yr_loseCol_o {post : Int32 → SY → Prop} {vals g : Nat → Int32} {x : Int32} (h : x < 0 ∨ nI 6 ≤ x) (hp : post (-1) (vals, g)) : wpY_loseColumn post (vals, g) x := by
  unfold wpY_loseColumn
  dsimp only
  exact ys_out 5 (by decide) h (br_f (by decide) hp)
end
section
/-! the reference: lines mended, passes, mend -/
theorem yk_loop {post : Int32 → SY → Prop} (x : Int32) (vals g : Nat → Int32) {f s : Nat} (hf : f + 5 * s < 36) (hp : post x (vals, pl_k g f s 0 6)) : ∀ d i, i + d = 6 → wY_mendLine_45 post (nI f) (nI s) x (d + 1) (nI i) vals (pl_k g f s 0 i) := by
  intro d
  induction d with
  | zero =>
    intro i hi
    obtain rfl : i = 6 := by omega
    exact br_t (nI_le (b := 6) (Nat.le_refl 6) (by decide)) hp
  | succ d ih =>
    intro i hi
    have hix : i * s ≤ 5 * s := Nat.mul_le_mul_right s (by omega)
    have e := pm_ix f i s
    have ec : (nI f + nI i * nI s).toNatClampNeg = f + i * s := by rw [e]; exact nI_clamp (by omega)
    have hin : vp_in (nI f + nI i * nI s) 36 := by rw [e]; exact vp_in_nI (by omega) (by decide)
    have eu : upd (pl_k g f s 0 i) (nI f + nI i * nI s).toNatClampNeg (vp_nar .boolean 0) = pl_k g f s 0 (i + 1) := by rw [ec, pb_0]; rfl
    exact br_f (nI_ge (b := 6) (by omega) (by decide)) ⟨hin, nm_r eu (nm_r (nI_1 i) (ih (i + 1) (by omega)))⟩
theorem yl_loop {post : Int32 → SY → Prop} (vals g : Nat → Int32) {f s : Nat} (hf : f + 5 * s < 36) (hp : post (nI (pl_a g f s)) (vals, pl_l g f s)) : ∀ d i, i + d = 6 → wY_mendLine_5 post (nI f) (nI s) vals g (d + 1) (nI (pl_c g f s i)) (nI i) := by
  intro d
  induction d with
  | zero =>
    intro i hi
    obtain rfl : i = 6 := by omega
    refine br_t (nI_le (b := 6) (Nat.le_refl 6) (by decide)) ?_
    by_cases h : pl_c g f s 6 ≤ 2
    · rw [pl_a_t h, pl_l_t h] at hp
      exact br_t (nI_le (b := 2) h (by decide)) ⟨7, yk_loop (nI (pl_c g f s 6)) vals g hf hp 6 0 rfl⟩
    · rw [pl_a_f h, pl_l_f h] at hp
      have hle := pl_c_le g f s 6
      exact br_f (nI_ge (a := 2) (by omega) (by omega)) hp
  | succ d ih =>
    intro i hi
    have hix : i * s ≤ 5 * s := Nat.mul_le_mul_right s (by omega)
    have e := pm_ix f i s
    have ec : (nI f + nI i * nI s).toNatClampNeg = f + i * s := by rw [e]; exact nI_clamp (by omega)
    have hin : vp_in (nI f + nI i * nI s) 36 := by rw [e]; exact vp_in_nI (by omega) (by decide)
    refine br_f (nI_ge (b := 6) (by omega) (by decide)) ⟨hin, ?_⟩
    rw [ec]
    have h := ih (i + 1) (by omega)
    by_cases z : g (f + i * s) = 0
    · rw [pl_c_s0 z] at h
      exact br_t z (nm_r (nI_1 i) h)
    · rw [pl_c_s1 z] at h
      exact br_f z (nm_r (nI_1 _) (nm_r (nI_1 i) h))
theorem yl_line {post : Int32 → SY → Prop} (vals g : Nat → Int32) {f s : Nat} (hf : f + 5 * s < 36) (hp : post (nI (pl_a g f s)) (vals, pl_l g f s)) : wpY_mendLine post (vals, g) (nI f) (nI s) :=
  ⟨7, yl_loop vals g hf hp 6 0 rfl⟩
theorem yr_mendRow {post : Int32 → SY → Prop} (vals g : Nat → Int32) {r : Nat} (hr : r < 6) (hp : post (nI (pl_a g (r * 6) 1)) (vals, pl_l g (r * 6) 1)) : wpY_mendRow post (vals, g) (nI r) := by
  unfold wpY_mendRow
  dsimp only
  refine ys_in (m := 5) (by omega) (by decide) (br_t rfl ?_)
  rw [pm_6m r]
  exact yl_line (s := 1) vals g (by omega) hp
theorem yr_mendRow_o {post : Int32 → SY → Prop} {vals g : Nat → Int32} {x : Int32} (h : x < 0 ∨ nI 6 ≤ x) (hp : post (-1) (vals, g)) : wpY_mendRow post (vals, g) x := by
  unfold wpY_mendRow
  dsimp only
  exact ys_out 5 (by decide) h (br_f (by decide) hp)
theorem yr_mendCol {post : Int32 → SY → Prop} (vals g : Nat → Int32) {r : Nat} (hr : r < 6) (hp : post (nI (pl_a g r 6)) (vals, pl_l g r 6)) : wpY_mendColumn post (vals, g) (nI r) := by
  unfold wpY_mendColumn
  dsimp only
  refine ys_in (m := 5) (by omega) (by decide) (br_t rfl ?_)
  exact yl_line (s := 6) vals g (by omega) hp
theorem yr_mendCol_o {post : Int32 → SY → Prop} {vals g : Nat → Int32} {x : Int32} (h : x < 0 ∨ nI 6 ≤ x) (hp : post (-1) (vals, g)) : wpY_mendColumn post (vals, g) x := by
  unfold wpY_mendColumn
  dsimp only
  exact ys_out 5 (by decide) h (br_f (by decide) hp)
theorem yp_loop {post : Int32 → SY → Prop} {J : Int32 → Int32 → Int32 → (Nat → Int32) → (Nat → Int32) → Prop} (x3 : Int32) (vals g : Nat → Int32) (s : Nat) (hs : s < 2 ^ 30) (h0 : pl_t g 6 = 0 → J (nI s) 0 (x3 + 1) vals (pl_s g 6)) (h1 : ¬ pl_t g 6 = 0 → J (nI (s + pl_t g 6)) 1 (x3 + 1) vals (pl_s g 6)) : ∀ d i, i + d = 6 → wY_mend_22 post J x3 (nI s) (d + 1) (nI (s + pl_t g i)) (nI i) vals (pl_s g i) := by
  intro d
  induction d with
  | zero =>
    intro i hi
    obtain rfl : i = 6 := by omega
    have hle := pl_t_le g 6
    refine br_t (nI_le (b := 6) (Nat.le_refl 6) (by decide)) ?_
    by_cases z : pl_t g 6 = 0
    · rw [z, Nat.add_zero]
      exact br_t (nI_le (Nat.le_refl s) (by omega)) (nm_e (h0 z))
    · exact br_f (nI_ge (by omega) (by omega)) (nm_e (h1 z))
  | succ d ih =>
    intro i hi
    have h := ih (i + 1) (by omega)
    rw [pl_t_s, ← Nat.add_assoc, ← Nat.add_assoc] at h
    refine br_f (nI_ge (b := 6) (by omega) (by decide)) ?_
    refine yr_mendRow vals (pl_s g i) (by omega) ?_
    dsimp only
    refine nm_r (nI_add _ _) ?_
    refine yr_mendCol vals (pl_l (pl_s g i) (i * 6) 1) (by omega) ?_
    dsimp only
    exact nm_r (nI_add _ _) (nm_r (nI_1 i) h)
theorem yq_loop {post : Int32 → SY → Prop} (vals : Nat → Int32) : ∀ (k r s : Nat) (g : Nat → Int32), k + r + 1 ≤ 37 → s ≤ 24 * r → pl_m g 6 ≤ k → post (nI (s + pl_su k g)) (vals, pl_it k g) → wY_mend_6 post (k + 2) (nI s) 1 (nI r) vals g := by
  intro k
  induction k with
  | zero =>
    intro r s g hr hs hm hp
    have hz : pl_t g 6 = 0 := by
      by_cases z : pl_t g 6 = 0
      · exact z
      · have h := pl_fall z
        omega
    have ho : wY_mend_6 post 1 (nI s) 0 (nI r + 1) vals (pl_s g 6) := by
      rw [pl_fix hz]
      exact br_c (fun _ => hp) (fun _ => br_t rfl hp)
    have h := yp_loop (post := post) (J := wY_mend_6 post 1) (nI r) vals g s (by omega) (fun _ => ho) (fun z => absurd hz z) 6 0 rfl
    exact br_f (nI_ge (b := 37) (by omega) (by decide)) (br_f (by decide) ⟨7, h⟩)
  | succ k ih =>
    intro r s g hr hs hm hp
    have hle := pl_t_le g 6
    have h := yp_loop (post := post) (J := wY_mend_6 post (k + 2)) (nI r) vals g s (by omega)
      (fun z => by
        have hst := pl_stay z (k + 1)
        rw [hst.1, hst.2, Nat.add_zero] at hp
        rw [pl_fix z]
        exact br_c (fun _ => hp) (fun _ => br_t rfl hp))
      (fun z => by
        have hf := pl_fall z
        rw [pl_su_s, pl_it_s, ← Nat.add_assoc] at hp
        rw [nI_1]
        exact ih (r + 1) (s + pl_t g 6) (pl_s g 6) (by omega) (by omega) (by omega) hp)
      6 0 rfl
    exact br_f (nI_ge (b := 37) (by omega) (by decide)) (br_f (by decide) ⟨7, h⟩)
theorem yq_mend {post : Int32 → SY → Prop} (vals g : Nat → Int32) (hp : post (nI (pl_su 12 g)) (vals, pl_it 12 g)) : wpY_mend post (vals, g) := by
  rw [← Nat.zero_add (pl_su 12 g)] at hp
  exact ⟨14, yq_loop vals 12 0 0 g (by decide) (by decide) (pl_m_le g 6) hp⟩
/-! losses, total -/
theorem yo_loop {post : Int32 → Prop} (vals g : Nat → Int32) (hp : post (pl_o g 36)) : ∀ d i, i + d = 36 → wY_losses_4 post vals g (d + 1) (pl_o g i) (nI i) := by
  intro d
  induction d with
  | zero =>
    intro i hi
    obtain rfl : i = 36 := by omega
    exact br_t (nI_le (b := 36) (Nat.le_refl 36) (by decide)) hp
  | succ d ih =>
    intro i hi
    have ec : (nI i).toNatClampNeg = i := nI_clamp (by omega)
    refine br_f (nI_ge (b := 36) (by omega) (by decide)) ⟨vp_in_nI (by omega) (by decide), ?_⟩
    rw [ec]
    have h := ih (i + 1) (by omega)
    by_cases z : g i = 0
    · rw [pl_o_0 z] at h
      exact br_t z (nm_r (nI_1 i) h)
    · rw [pl_o_1 z] at h
      exact br_f z (nm_e (nm_r (nI_1 i) h))
theorem yo_losses {post : Int32 → Prop} (vals g : Nat → Int32) (hp : post (pl_o g 36)) : wpY_losses post (vals, g) :=
  ⟨37, yo_loop vals g hp 36 0 rfl⟩
theorem yt_ix {i : Nat} (hi : i < 16) : 6 * (nI i / 4) + (nI i - nI i / 4 * 4) = nI (i / 4 * 6 + i % 4) := by
  have e1 : nI i - nI i / 4 * 4 = nI (i % 4) := pk_rem (d := 4) (by omega) (by decide) (by decide)
  have e2 : nI i / 4 = nI (i / 4) := pk_div (d := 4) (by omega) (by decide) (by decide)
  rw [e1, e2]
  exact pm_y6 (i / 4) (i % 4)
theorem yt_loop {post : Int32 → Prop} (v g : Nat → Int32) (hp : post (pl_v v g 16)) : ∀ d i, i + d = 16 → wY_total_4 post v g (d + 1) (pl_v v g i) (nI i) := by
  intro d
  induction d with
  | zero =>
    intro i hi
    obtain rfl : i = 16 := by omega
    exact br_t (nI_le (b := 16) (Nat.le_refl 16) (by decide)) hp
  | succ d ih =>
    intro i hi
    have h := ih (i + 1) (by omega)
    have e := yt_ix (i := i) (by omega)
    have ec : (6 * (nI i / 4) + (nI i - nI i / 4 * 4)).toNatClampNeg = i / 4 * 6 + i % 4 := by rw [e]; exact nI_clamp (by omega)
    have hin : vp_in (6 * (nI i / 4) + (nI i - nI i / 4 * 4)) 36 := by rw [e]; exact vp_in_nI (by omega) (by decide)
    have ei : (nI i).toNatClampNeg = i := nI_clamp (by omega)
    refine br_f (nI_ge (b := 16) (by omega) (by decide)) ⟨by decide, by decide, hin, ?_⟩
    rw [ec, ei]
    by_cases z : g (i / 4 * 6 + i % 4) = 0
    · rw [pl_v_0 z] at h
      exact br_t z ⟨vp_in_nI (by omega) (by decide), nm_e (nm_r (nI_1 i) h)⟩
    · rw [pl_v_1 z] at h
      exact br_f z (nm_r (nI_1 i) h)
theorem yt_total {post : Int32 → Prop} (v g : Nat → Int32) (hp : post (pl_v v g 16)) : wpY_total post (v, g) :=
  ⟨17, yt_loop v g hp 16 0 rfl⟩
end
section
/-! the owed statements -/
/-- both keep the same two arrays -/
def i_Rel (_ : Nat) (u : SX) (v : SY) : Prop := u = v
theorem i_up {k : Nat} {u : SX} {v : SY} (h : i_Rel k u v) : i_Rel (k + 4) u v := h
theorem i_vc0 : wpX_init (fun u => wpY_init (fun v => i_Rel 0 u v)) := rfl
theorem i_vc_write {k : Nat} {u : SX} {v : SY} (I : i_Rel k u v) (hk : k + 4 ≤ 2048) (v1 : Int32) (v2 : Int32) (v3 : Int32) : wpX_write (fun r u' => wpY_write (fun r' v' => r' = r ∧ i_Rel (k + 4) u' v') v v1 v2 v3) u v1 v2 v3 := by
  obtain ⟨vals, g⟩ := u
  cases I
  rcases pm_in v1 (n := 4) (by decide) with h | ⟨r, hr, rfl⟩
  · exact xr_write_o1 h (yr_write_o1 h ⟨rfl, rfl⟩)
  · rcases pm_in v2 (n := 4) (by decide) with h | ⟨c, hc, rfl⟩
    · exact xr_write_o2 hr h (yr_write_o2 hr h ⟨rfl, rfl⟩)
    · exact xr_write vals g v3 hr hc (fun z => yr_write vals g v3 hr hc (fun _ => ⟨rfl, rfl⟩) (fun z' => absurd z z')) (fun z => yr_write vals g v3 hr hc (fun z' => absurd z' z) (fun _ => ⟨rfl, rfl⟩))
theorem i_vc_read {k : Nat} {u : SX} {v : SY} (I : i_Rel k u v) (hk : k + 4 ≤ 2048) (v1 : Int32) (v2 : Int32) : wpX_read (fun r => wpY_read (fun r' => r' = r ∧ i_Rel (k + 4) u v) v v1 v2) u v1 v2 := by
  obtain ⟨vals, g⟩ := u
  cases I
  rcases pm_in v1 (n := 4) (by decide) with h | ⟨r, hr, rfl⟩
  · exact xr_read_o1 h (yr_read_o1 h ⟨rfl, rfl⟩)
  · rcases pm_in v2 (n := 4) (by decide) with h | ⟨c, hc, rfl⟩
    · exact xr_read_o2 hr h (yr_read_o2 hr h ⟨rfl, rfl⟩)
    · exact xr_read vals g hr hc (fun z => yr_read vals g hr hc (fun _ => ⟨rfl, rfl⟩) (fun z' => absurd z z')) (fun z => yr_read vals g hr hc (fun z' => absurd z' z) (fun _ => ⟨rfl, rfl⟩))
theorem i_vc_lose {k : Nat} {u : SX} {v : SY} (I : i_Rel k u v) (hk : k + 4 ≤ 2048) (v1 : Int32) (v2 : Int32) : wpX_lose (fun r u' => wpY_lose (fun r' v' => r' = r ∧ i_Rel (k + 4) u' v') v v1 v2) u v1 v2 := by
  obtain ⟨vals, g⟩ := u
  cases I
  rcases pm_in v1 (n := 6) (by decide) with h | ⟨r, hr, rfl⟩
  · exact xr_lose_o1 h (yr_lose_o1 h ⟨rfl, rfl⟩)
  · rcases pm_in v2 (n := 6) (by decide) with h | ⟨c, hc, rfl⟩
    · exact xr_lose_o2 hr h (yr_lose_o2 hr h ⟨rfl, rfl⟩)
    · exact xr_lose vals g hr hc (fun z => yr_lose vals g (r * 6 + c) rfl hr hc (fun _ => ⟨rfl, rfl⟩) (fun z' => absurd z z')) (fun z => yr_lose vals g (r * 6 + c) rfl hr hc (fun z' => absurd z' z) (fun _ => ⟨rfl, rfl⟩))
theorem i_vc_loseRow {k : Nat} {u : SX} {v : SY} (I : i_Rel k u v) (hk : k + 4 ≤ 2048) (v1 : Int32) : wpX_loseRow (fun r u' => wpY_loseRow (fun r' v' => r' = r ∧ i_Rel (k + 4) u' v') v v1) u v1 := by
  obtain ⟨vals, g⟩ := u
  cases I
  rcases pm_in v1 (n := 6) (by decide) with h | ⟨r, hr, rfl⟩
  · exact xr_loseRow_o h (yr_loseRow_o h ⟨rfl, rfl⟩)
  · exact xr_loseRow vals g hr (yr_loseRow vals g hr ⟨rfl, rfl⟩)
theorem i_vc_loseColumn {k : Nat} {u : SX} {v : SY} (I : i_Rel k u v) (hk : k + 4 ≤ 2048) (v1 : Int32) : wpX_loseColumn (fun r u' => wpY_loseColumn (fun r' v' => r' = r ∧ i_Rel (k + 4) u' v') v v1) u v1 := by
  obtain ⟨vals, g⟩ := u
  cases I
  rcases pm_in v1 (n := 6) (by decide) with h | ⟨r, hr, rfl⟩
  · exact xr_loseCol_o h (yr_loseCol_o h ⟨rfl, rfl⟩)
  · exact xr_loseCol vals g hr (yr_loseCol vals g hr ⟨rfl, rfl⟩)
theorem i_vc_mendRow {k : Nat} {u : SX} {v : SY} (I : i_Rel k u v) (hk : k + 4 ≤ 2048) (v1 : Int32) : wpX_mendRow (fun r u' => wpY_mendRow (fun r' v' => r' = r ∧ i_Rel (k + 4) u' v') v v1) u v1 := by
  obtain ⟨vals, g⟩ := u
  cases I
  rcases pm_in v1 (n := 6) (by decide) with h | ⟨r, hr, rfl⟩
  · exact xr_mendRow_o h (yr_mendRow_o h ⟨rfl, rfl⟩)
  · exact xr_mendRow vals g hr (yr_mendRow vals g hr ⟨rfl, rfl⟩)
theorem i_vc_mendColumn {k : Nat} {u : SX} {v : SY} (I : i_Rel k u v) (hk : k + 4 ≤ 2048) (v1 : Int32) : wpX_mendColumn (fun r u' => wpY_mendColumn (fun r' v' => r' = r ∧ i_Rel (k + 4) u' v') v v1) u v1 := by
  obtain ⟨vals, g⟩ := u
  cases I
  rcases pm_in v1 (n := 6) (by decide) with h | ⟨r, hr, rfl⟩
  · exact xr_mendCol_o h (yr_mendCol_o h ⟨rfl, rfl⟩)
  · exact xr_mendCol vals g hr (yr_mendCol vals g hr ⟨rfl, rfl⟩)
theorem i_vc_mend {k : Nat} {u : SX} {v : SY} (I : i_Rel k u v) (hk : k + 4 ≤ 2048) : wpX_mend (fun r u' => wpY_mend (fun r' v' => r' = r ∧ i_Rel (k + 4) u' v') v) u := by
  obtain ⟨vals, g⟩ := u
  cases I
  exact xq_mend vals g (yq_mend vals g ⟨rfl, rfl⟩)
theorem i_vc_lost {k : Nat} {u : SX} {v : SY} (I : i_Rel k u v) (hk : k + 4 ≤ 2048) (v1 : Int32) (v2 : Int32) : wpX_lost (fun r => wpY_lost (fun r' => r' = r ∧ i_Rel (k + 4) u v) v v1 v2) u v1 v2 := by
  obtain ⟨vals, g⟩ := u
  cases I
  rcases pm_in v1 (n := 6) (by decide) with h | ⟨r, hr, rfl⟩
  · exact xr_lost_o1 h (yr_lost_o1 h ⟨rfl, rfl⟩)
  · rcases pm_in v2 (n := 6) (by decide) with h | ⟨c, hc, rfl⟩
    · exact xr_lost_o2 hr h (yr_lost_o2 hr h ⟨rfl, rfl⟩)
    · exact xr_lost vals g hr hc (fun z => yr_lost vals g hr hc (fun _ => ⟨rfl, rfl⟩) (fun z' => absurd z z')) (fun z => yr_lost vals g hr hc (fun z' => absurd z' z) (fun _ => ⟨rfl, rfl⟩))
theorem i_vc_losses {k : Nat} {u : SX} {v : SY} (I : i_Rel k u v) (hk : k + 4 ≤ 2048) : wpX_losses (fun r => wpY_losses (fun r' => r' = r ∧ i_Rel (k + 4) u v) v) u := by
  obtain ⟨vals, g⟩ := u
  cases I
  exact xo_losses vals g (yo_losses vals g ⟨rfl, rfl⟩)
theorem i_vc_total {k : Nat} {u : SX} {v : SY} (I : i_Rel k u v) (hk : k + 4 ≤ 2048) : wpX_total (fun r => wpY_total (fun r' => r' = r ∧ i_Rel (k + 4) u v) v) u := by
  obtain ⟨vals, g⟩ := u
  cases I
  exact xt_total vals g (yt_total vals g ⟨rfl, rfl⟩)
end
