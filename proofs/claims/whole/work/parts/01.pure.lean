/-! A line of six cells (first cell f, step s) over an array of flags: how many are lost (pl_c), its cells set (pl_k), one line mended (pl_l, answer pl_a), one pass over rows and columns (pl_s, answer pl_t), k passes (pl_it, answer pl_su), and how many lines have a lost cell (pl_m) -/
def pl_c (a : Nat → Int32) (f s : Nat) : Nat → Nat
  | 0 => 0
  | i + 1 => pl_c a f s i + (if a (f + i * s) = 0 then 0 else 1)
def pl_k (a : Nat → Int32) (f s : Nat) (x : Int32) : Nat → (Nat → Int32)
  | 0 => a
  | i + 1 => upd (pl_k a f s x i) (f + i * s) x
theorem pl_c_s (a : Nat → Int32) (f s i : Nat) : pl_c a f s (i + 1) = pl_c a f s i + (if a (f + i * s) = 0 then 0 else 1) := rfl
theorem pl_c_s0 {a : Nat → Int32} {f s i : Nat} (h : a (f + i * s) = 0) : pl_c a f s (i + 1) = pl_c a f s i := by
  rw [pl_c_s, if_pos h]; rfl
theorem pl_c_s1 {a : Nat → Int32} {f s i : Nat} (h : ¬ a (f + i * s) = 0) : pl_c a f s (i + 1) = pl_c a f s i + 1 := by
  rw [pl_c_s, if_neg h]
theorem pl_c_le (a : Nat → Int32) (f s : Nat) : ∀ i, pl_c a f s i ≤ i := by
  intro i
  induction i with
  | zero => exact Nat.le_refl 0
  | succ i ih =>
    by_cases h : a (f + i * s) = 0
    · rw [pl_c_s0 h]; omega
    · rw [pl_c_s1 h]; omega
/-- b has lost no cell that a hasn't -/
def pl_le (b a : Nat → Int32) : Prop := ∀ j, a j = 0 → b j = 0
theorem pl_c_mono {b a : Nat → Int32} (h : pl_le b a) (f s : Nat) : ∀ i, pl_c b f s i ≤ pl_c a f s i := by
  intro i
  induction i with
  | zero => exact Nat.le_refl 0
  | succ i ih =>
    by_cases ha : a (f + i * s) = 0
    · rw [pl_c_s0 ha, pl_c_s0 (h _ ha)]; exact ih
    · rw [pl_c_s1 ha]
      by_cases hb : b (f + i * s) = 0
      · rw [pl_c_s0 hb]; omega
      · rw [pl_c_s1 hb]; omega
theorem pl_k_s (a : Nat → Int32) (f s : Nat) (x : Int32) (i : Nat) : pl_k a f s x (i + 1) = upd (pl_k a f s x i) (f + i * s) x := rfl
theorem pl_u_s (f : Nat → Int32) (k : Nat) (x : Int32) : upd f k x k = x := if_pos rfl
theorem pl_u_n {f : Nat → Int32} {k j : Nat} (x : Int32) (h : ¬ j = k) : upd f k x j = f j := if_neg h
theorem pl_k0_le (a : Nat → Int32) (f s : Nat) : ∀ i, pl_le (pl_k a f s 0 i) a := by
  intro i
  induction i with
  | zero => exact fun _ h => h
  | succ i ih =>
    intro j h
    rw [pl_k_s]
    by_cases e : j = f + i * s
    · rw [e, pl_u_s]
    · rw [pl_u_n _ e]; exact ih j h
theorem pl_k0_z (a : Nat → Int32) (f s : Nat) : ∀ i j, j < i → pl_k a f s 0 i (f + j * s) = 0 := by
  intro i
  induction i with
  | zero => exact fun j h => absurd h (Nat.not_lt_zero j)
  | succ i ih =>
    intro j h
    rw [pl_k_s]
    by_cases e : f + j * s = f + i * s
    · rw [e, pl_u_s]
    · rw [pl_u_n _ e]
      refine ih j ?_
      by_cases e' : j = i
      · exact absurd (by rw [e']) e
      · omega
theorem pl_k_off (a : Nat → Int32) (f : Nat) {s : Nat} (x : Int32) (hs : 0 < s) : ∀ i j, i ≤ j → pl_k a f s x i (f + j * s) = a (f + j * s) := by
  intro i
  induction i with
  | zero => exact fun _ _ => rfl
  | succ i ih =>
    intro j h
    have h1 := Nat.mul_le_mul_right s h
    rw [Nat.add_mul, Nat.one_mul] at h1
    rw [pl_k_s, pl_u_n _ (by omega)]
    exact ih j (by omega)
theorem pl_c_z {a : Nat → Int32} {f s : Nat} : ∀ i, (∀ j, j < i → a (f + j * s) = 0) → pl_c a f s i = 0 := by
  intro i
  induction i with
  | zero => exact fun _ => rfl
  | succ i ih =>
    intro h
    rw [pl_c_s0 (h i (Nat.lt_succ_self i))]
    exact ih (fun j hj => h j (by omega))
theorem pl_k_z {a : Nat → Int32} {f s : Nat} : ∀ i, pl_c a f s i = 0 → pl_k a f s 0 i = a := by
  intro i
  induction i with
  | zero => exact fun _ => rfl
  | succ i ih =>
    intro h
    by_cases ha : a (f + i * s) = 0
    · rw [pl_c_s0 ha] at h
      rw [pl_k_s, ih h]
      funext j
      by_cases e : j = f + i * s
      · rw [e, pl_u_s, ha]
      · rw [pl_u_n _ e]
    · rw [pl_c_s1 ha] at h; omega
/-! one line -/
def pl_l (a : Nat → Int32) (f s : Nat) : Nat → Int32 := if pl_c a f s 6 ≤ 2 then pl_k a f s 0 6 else a
def pl_a (a : Nat → Int32) (f s : Nat) : Nat := if pl_c a f s 6 ≤ 2 then pl_c a f s 6 else 0
theorem pl_l_t {a : Nat → Int32} {f s : Nat} (h : pl_c a f s 6 ≤ 2) : pl_l a f s = pl_k a f s 0 6 := if_pos h
theorem pl_l_f {a : Nat → Int32} {f s : Nat} (h : ¬ pl_c a f s 6 ≤ 2) : pl_l a f s = a := if_neg h
theorem pl_a_t {a : Nat → Int32} {f s : Nat} (h : pl_c a f s 6 ≤ 2) : pl_a a f s = pl_c a f s 6 := if_pos h
theorem pl_a_f {a : Nat → Int32} {f s : Nat} (h : ¬ pl_c a f s 6 ≤ 2) : pl_a a f s = 0 := if_neg h
theorem pl_a_le (a : Nat → Int32) (f s : Nat) : pl_a a f s ≤ 2 := by
  by_cases h : pl_c a f s 6 ≤ 2
  · rw [pl_a_t h]; exact h
  · rw [pl_a_f h]; omega
theorem pl_l_le (a : Nat → Int32) (f s : Nat) : pl_le (pl_l a f s) a := by
  by_cases h : pl_c a f s 6 ≤ 2
  · rw [pl_l_t h]; exact pl_k0_le a f s 6
  · rw [pl_l_f h]; exact fun _ h => h
theorem pl_l_or (a : Nat → Int32) (f s : Nat) : (pl_a a f s = 0 ∧ pl_l a f s = a) ∨ (0 < pl_a a f s ∧ pl_c (pl_l a f s) f s 6 = 0 ∧ 0 < pl_c a f s 6) := by
  by_cases h : pl_c a f s 6 ≤ 2
  · rw [pl_l_t h, pl_a_t h]
    by_cases h0 : pl_c a f s 6 = 0
    · exact Or.inl ⟨h0, pl_k_z 6 h0⟩
    · exact Or.inr ⟨by omega, pl_c_z 6 (fun j hj => pl_k0_z a f s 6 j hj), by omega⟩
  · exact Or.inl ⟨pl_a_f h, pl_l_f h⟩
/-! how many lines have a lost cell -/
def pl_n (a : Nat → Int32) (f s : Nat) : Nat := if pl_c a f s 6 = 0 then 0 else 1
def pl_m (a : Nat → Int32) : Nat → Nat
  | 0 => 0
  | i + 1 => pl_m a i + (pl_n a (i * 6) 1 + pl_n a i 6)
theorem pl_n_0 {a : Nat → Int32} {f s : Nat} (h : pl_c a f s 6 = 0) : pl_n a f s = 0 := if_pos h
theorem pl_n_1 {a : Nat → Int32} {f s : Nat} (h : 0 < pl_c a f s 6) : pl_n a f s = 1 := if_neg (by omega)
theorem pl_n_le (a : Nat → Int32) (f s : Nat) : pl_n a f s ≤ 1 := by
  by_cases h : pl_c a f s 6 = 0
  · rw [pl_n_0 h]; omega
  · rw [pl_n_1 (by omega)]; omega
theorem pl_n_mono {b a : Nat → Int32} (h : pl_le b a) (f s : Nat) : pl_n b f s ≤ pl_n a f s := by
  have hc := pl_c_mono h f s 6
  by_cases hb : pl_c b f s 6 = 0
  · rw [pl_n_0 hb]; omega
  · rw [pl_n_1 (a := b) (by omega), pl_n_1 (a := a) (by omega)]; omega
theorem pl_m_s (a : Nat → Int32) (i : Nat) : pl_m a (i + 1) = pl_m a i + (pl_n a (i * 6) 1 + pl_n a i 6) := rfl
theorem pl_m_le (a : Nat → Int32) : ∀ i, pl_m a i ≤ 2 * i := by
  intro i
  induction i with
  | zero => exact Nat.le_refl 0
  | succ i ih =>
    have h1 := pl_n_le a (i * 6) 1
    have h2 := pl_n_le a i 6
    rw [pl_m_s]; omega
theorem pl_m_mono {b a : Nat → Int32} (h : pl_le b a) : ∀ i, pl_m b i ≤ pl_m a i := by
  intro i
  induction i with
  | zero => exact Nat.le_refl 0
  | succ i ih =>
    have h1 := pl_n_mono h (i * 6) 1
    have h2 := pl_n_mono h i 6
    rw [pl_m_s, pl_m_s]; omega
theorem pl_m_lt {b a : Nat → Int32} (h : pl_le b a) {i : Nat} (hi : pl_n b (i * 6) 1 < pl_n a (i * 6) 1 ∨ pl_n b i 6 < pl_n a i 6) : ∀ k, i < k → pl_m b k < pl_m a k := by
  intro k
  induction k with
  | zero => exact fun hk => absurd hk (Nat.not_lt_zero i)
  | succ k ih =>
    intro hk
    have h1 := pl_n_mono h (k * 6) 1
    have h2 := pl_n_mono h k 6
    rw [pl_m_s, pl_m_s]
    by_cases e : i = k
    · rw [e] at hi
      have hm := pl_m_mono h k
      omega
    · have hm := ih (by omega)
      omega
theorem pl_row_or (b : Nat → Int32) {i : Nat} (hi : i < 6) : (pl_a b (i * 6) 1 = 0 ∧ pl_l b (i * 6) 1 = b) ∨ (0 < pl_a b (i * 6) 1 ∧ pl_m (pl_l b (i * 6) 1) 6 < pl_m b 6) := by
  rcases pl_l_or b (i * 6) 1 with h | ⟨h0, h1, h2⟩
  · exact Or.inl h
  · exact Or.inr ⟨h0, pl_m_lt (pl_l_le b (i * 6) 1) (Or.inl (by rw [pl_n_0 h1, pl_n_1 h2]; omega)) 6 hi⟩
theorem pl_col_or (b : Nat → Int32) {i : Nat} (hi : i < 6) : (pl_a b i 6 = 0 ∧ pl_l b i 6 = b) ∨ (0 < pl_a b i 6 ∧ pl_m (pl_l b i 6) 6 < pl_m b 6) := by
  rcases pl_l_or b i 6 with h | ⟨h0, h1, h2⟩
  · exact Or.inl h
  · exact Or.inr ⟨h0, pl_m_lt (pl_l_le b i 6) (Or.inr (by rw [pl_n_0 h1, pl_n_1 h2]; omega)) 6 hi⟩
/-! one pass -/
def pl_s (a : Nat → Int32) : Nat → (Nat → Int32)
  | 0 => a
  | i + 1 => pl_l (pl_l (pl_s a i) (i * 6) 1) i 6
def pl_t (a : Nat → Int32) : Nat → Nat
  | 0 => 0
  | i + 1 => pl_t a i + pl_a (pl_s a i) (i * 6) 1 + pl_a (pl_l (pl_s a i) (i * 6) 1) i 6
theorem pl_s_s (a : Nat → Int32) (i : Nat) : pl_s a (i + 1) = pl_l (pl_l (pl_s a i) (i * 6) 1) i 6 := rfl
theorem pl_t_s (a : Nat → Int32) (i : Nat) : pl_t a (i + 1) = pl_t a i + pl_a (pl_s a i) (i * 6) 1 + pl_a (pl_l (pl_s a i) (i * 6) 1) i 6 := rfl
theorem pl_t_le (a : Nat → Int32) : ∀ i, pl_t a i ≤ 4 * i := by
  intro i
  induction i with
  | zero => exact Nat.le_refl 0
  | succ i ih =>
    have h1 := pl_a_le (pl_s a i) (i * 6) 1
    have h2 := pl_a_le (pl_l (pl_s a i) (i * 6) 1) i 6
    rw [pl_t_s]; omega
theorem pl_s_or (a : Nat → Int32) : ∀ i, i ≤ 6 → (pl_t a i = 0 ∧ pl_s a i = a) ∨ (0 < pl_t a i ∧ pl_m (pl_s a i) 6 < pl_m a 6) := by
  intro i
  induction i with
  | zero => exact fun _ => Or.inl ⟨rfl, rfl⟩
  | succ i ih =>
    intro hi
    have m1 := pl_m_mono (pl_l_le (pl_s a i) (i * 6) 1) 6
    have m2 := pl_m_mono (pl_l_le (pl_l (pl_s a i) (i * 6) 1) i 6) 6
    rw [pl_t_s, pl_s_s]
    rcases ih (by omega) with ⟨h1, h2⟩ | ⟨h1, h2⟩
    · have e2 : pl_m (pl_s a i) 6 = pl_m a 6 := by rw [h2]
      rcases pl_row_or (pl_s a i) (i := i) (by omega) with ⟨h3, h4⟩ | ⟨h3, h4⟩
      · rcases pl_col_or (pl_l (pl_s a i) (i * 6) 1) (i := i) (by omega) with ⟨h5, h6⟩ | ⟨h5, h6⟩
        · exact Or.inl ⟨by omega, by rw [h6, h4, h2]⟩
        · exact Or.inr ⟨by omega, by omega⟩
      · exact Or.inr ⟨by omega, by omega⟩
    · exact Or.inr ⟨by omega, by omega⟩
theorem pl_fix {a : Nat → Int32} (h : pl_t a 6 = 0) : pl_s a 6 = a := by
  rcases pl_s_or a 6 (Nat.le_refl 6) with h' | h'
  · exact h'.2
  · omega
theorem pl_fall {a : Nat → Int32} (h : ¬ pl_t a 6 = 0) : pl_m (pl_s a 6) 6 < pl_m a 6 := by
  rcases pl_s_or a 6 (Nat.le_refl 6) with h' | h'
  · exact absurd h'.1 h
  · exact h'.2
/-! k passes -/
def pl_it : Nat → (Nat → Int32) → (Nat → Int32)
  | 0, a => a
  | k + 1, a => pl_it k (pl_s a 6)
def pl_su : Nat → (Nat → Int32) → Nat
  | 0, _ => 0
  | k + 1, a => pl_t a 6 + pl_su k (pl_s a 6)
theorem pl_it_s (k : Nat) (a : Nat → Int32) : pl_it (k + 1) a = pl_it k (pl_s a 6) := rfl
theorem pl_su_s (k : Nat) (a : Nat → Int32) : pl_su (k + 1) a = pl_t a 6 + pl_su k (pl_s a 6) := rfl
theorem pl_stay {a : Nat → Int32} (h : pl_t a 6 = 0) : ∀ k, pl_it k a = a ∧ pl_su k a = 0 := by
  intro k
  induction k with
  | zero => exact ⟨rfl, rfl⟩
  | succ k ih =>
    have e := pl_fix h
    rw [pl_it_s, pl_su_s, e, h, ih.2]
    exact ⟨ih.1, rfl⟩
