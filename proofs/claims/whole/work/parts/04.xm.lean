/-! the component's rows and columns, passes, mend -/
theorem xr_loseRow {post : Int32 → SX → Prop} (vals g : Nat → Int32) {r : Nat} (hr : r < 6) (hp : post (nI (6 - pl_c g (r * 6) 1 6)) (vals, pl_k g (r * 6) 1 1 6)) : wpX_loseRow post (vals, g) (nI r) := by
  unfold wpX_loseRow
  dsimp only
  refine xs_in hr (br_f (by decide) ?_)
  rw [pm_m6 r]
  exact xm_lose (s := 1) vals g (by omega) hp
theorem xr_loseRow_o {post : Int32 → SX → Prop} {vals g : Nat → Int32} {x : Int32} (h : x < 0 ∨ nI 6 ≤ x) (hp : post (-1) (vals, g)) : wpX_loseRow post (vals, g) x := by
  unfold wpX_loseRow
  dsimp only
  exact xs_out h (br_t rfl hp)
theorem xr_loseCol {post : Int32 → SX → Prop} (vals g : Nat → Int32) {r : Nat} (hr : r < 6) (hp : post (nI (6 - pl_c g r 6 6)) (vals, pl_k g r 6 1 6)) : wpX_loseColumn post (vals, g) (nI r) := by
  unfold wpX_loseColumn
  dsimp only
  refine xs_in hr (br_f (by decide) ?_)
  exact xm_lose (s := 6) vals g (by omega) hp
theorem xr_loseCol_o {post : Int32 → SX → Prop} {vals g : Nat → Int32} {x : Int32} (h : x < 0 ∨ nI 6 ≤ x) (hp : post (-1) (vals, g)) : wpX_loseColumn post (vals, g) x := by
  unfold wpX_loseColumn
  dsimp only
  exact xs_out h (br_t rfl hp)
theorem xr_mendRow {post : Int32 → SX → Prop} (vals g : Nat → Int32) {r : Nat} (hr : r < 6) (hp : post (nI (pl_a g (r * 6) 1)) (vals, pl_l g (r * 6) 1)) : wpX_mendRow post (vals, g) (nI r) := by
  unfold wpX_mendRow
  dsimp only
  refine xs_in hr (br_f (by decide) ?_)
  rw [pm_m6 r]
  exact xm_line (s := 1) vals g (by omega) hp
theorem xr_mendRow_o {post : Int32 → SX → Prop} {vals g : Nat → Int32} {x : Int32} (h : x < 0 ∨ nI 6 ≤ x) (hp : post (-1) (vals, g)) : wpX_mendRow post (vals, g) x := by
  unfold wpX_mendRow
  dsimp only
  exact xs_out h (br_t rfl hp)
theorem xr_mendCol {post : Int32 → SX → Prop} (vals g : Nat → Int32) {r : Nat} (hr : r < 6) (hp : post (nI (pl_a g r 6)) (vals, pl_l g r 6)) : wpX_mendColumn post (vals, g) (nI r) := by
  unfold wpX_mendColumn
  dsimp only
  refine xs_in hr (br_f (by decide) ?_)
  exact xm_line (s := 6) vals g (by omega) hp
theorem xr_mendCol_o {post : Int32 → SX → Prop} {vals g : Nat → Int32} {x : Int32} (h : x < 0 ∨ nI 6 ≤ x) (hp : post (-1) (vals, g)) : wpX_mendColumn post (vals, g) x := by
  unfold wpX_mendColumn
  dsimp only
  exact xs_out h (br_t rfl hp)
theorem xp_loop {post : Int32 → SX → Prop} (vals g : Nat → Int32) (hp : post (nI (pl_t g 6)) (vals, pl_s g 6)) : ∀ d i, i + d = 6 → wX_mendEachLineOnce_4 post (d + 1) (nI (pl_t g i)) (nI i) vals (pl_s g i) := by
  intro d
  induction d with
  | zero =>
    intro i hi
    obtain rfl : i = 6 := by omega
    exact br_t (nI_le (b := 6) (Nat.le_refl 6) (by decide)) hp
  | succ d ih =>
    intro i hi
    refine br_f (nI_ge (b := 6) (by omega) (by decide)) ?_
    rw [pm_m6 i]
    refine xm_line (s := 1) vals (pl_s g i) (by omega) ?_
    dsimp only
    refine nm_r (nI_add _ _) ?_
    refine xm_line (s := 6) vals (pl_l (pl_s g i) (i * 6) 1) (by omega) ?_
    dsimp only
    exact nm_r (nI_add _ _) (nm_r (nI_1 i) (ih (i + 1) (by omega)))
theorem xp_pass {post : Int32 → SX → Prop} (vals g : Nat → Int32) (hp : post (nI (pl_t g 6)) (vals, pl_s g 6)) : wpX_mendEachLineOnce post (vals, g) :=
  ⟨7, xp_loop vals g hp 6 0 rfl⟩
theorem xq_loop {post : Int32 → SX → Prop} (vals : Nat → Int32) : ∀ (d i s : Nat) (g : Nat → Int32), i + d = 12 → post (nI (s + pl_su d g)) (vals, pl_it d g) → wX_mend_4 post (d + 1) (nI s) (nI i) vals g := by
  intro d
  induction d with
  | zero =>
    intro i s g hi hp
    obtain rfl : i = 12 := by omega
    exact br_t (nI_le (b := 12) (Nat.le_refl 12) (by decide)) hp
  | succ d ih =>
    intro i s g hi hp
    rw [pl_su_s, pl_it_s, ← Nat.add_assoc] at hp
    refine br_f (nI_ge (b := 12) (by omega) (by decide)) ?_
    refine xp_pass vals g ?_
    dsimp only
    exact nm_r (nI_add _ _) (nm_r (nI_1 i) (ih (i + 1) (s + pl_t g 6) (pl_s g 6) (by omega) hp))
theorem xq_mend {post : Int32 → SX → Prop} (vals g : Nat → Int32) (hp : post (nI (pl_su 12 g)) (vals, pl_it 12 g)) : wpX_mend post (vals, g) := by
  rw [← Nat.zero_add (pl_su 12 g)] at hp
  exact ⟨13, xq_loop vals 12 0 0 g rfl hp⟩
/-! losses, total -/
def pl_o (g : Nat → Int32) : Nat → Int32
  | 0 => 0
  | i + 1 => if g i = 0 then pl_o g i else pl_o g i + 1
theorem pl_o_0 {g : Nat → Int32} {i : Nat} (h : g i = 0) : pl_o g (i + 1) = pl_o g i := if_pos h
theorem pl_o_1 {g : Nat → Int32} {i : Nat} (h : ¬ g i = 0) : pl_o g (i + 1) = pl_o g i + 1 := if_neg h
theorem xo_loop {post : Int32 → Prop} (vals g : Nat → Int32) (hp : post (pl_o g 36)) : ∀ d i, i + d = 36 → wX_losses_4 post vals g (d + 1) (pl_o g i) (nI i) := by
  intro d
  induction d with
  | zero =>
    intro i hi
    obtain rfl : i = 36 := by omega
    exact br_t (nI_le (b := 36) (Nat.le_refl 36) (by decide)) hp
  | succ d ih =>
    intro i hi
    have ec : (nI i).toNatClampNeg = i := nI_clamp (by omega)
    refine br_f (nI_ge (b := 36) (by omega) (by decide)) ⟨vp_in_nI (by omega) (by decide), ?_⟩
    rw [ec]
    have h := ih (i + 1) (by omega)
    by_cases z : g i = 0
    · rw [pl_o_0 z] at h
      exact br_t z (nm_r (nI_1 i) h)
    · rw [pl_o_1 z] at h
      exact br_f z (nm_e (nm_r (nI_1 i) h))
theorem xo_losses {post : Int32 → Prop} (vals g : Nat → Int32) (hp : post (pl_o g 36)) : wpX_losses post (vals, g) :=
  ⟨37, xo_loop vals g hp 36 0 rfl⟩
def pl_v (v g : Nat → Int32) : Nat → Int32
  | 0 => 0
  | i + 1 => if g (i / 4 * 6 + i % 4) = 0 then pl_v v g i + v i else pl_v v g i
theorem pl_v_0 {v g : Nat → Int32} {i : Nat} (h : g (i / 4 * 6 + i % 4) = 0) : pl_v v g (i + 1) = pl_v v g i + v i := if_pos h
theorem pl_v_1 {v g : Nat → Int32} {i : Nat} (h : ¬ g (i / 4 * 6 + i % 4) = 0) : pl_v v g (i + 1) = pl_v v g i := if_neg h
theorem pl_v_ix {r c : Nat} (hc : c < 4) : (r * 4 + c) / 4 * 6 + (r * 4 + c) % 4 = r * 6 + c := by omega
theorem xt_in {post : Int32 → Prop} {J : Int32 → Int32 → Prop} (v g : Nat → Int32) {r : Nat} (hr : r < 4) (hJ : J (pl_v v g (r * 4 + 4)) (nI (r + 1))) : ∀ d c, c + d = 4 → wX_total_11 post J (nI r) v g (d + 1) (pl_v v g (r * 4 + c)) (nI c) := by
  intro d
  induction d with
  | zero =>
    intro c hc
    obtain rfl : c = 4 := by omega
    exact br_t (nI_le (b := 4) (Nat.le_refl 4) (by decide)) (nm_r (nI_1 r) hJ)
  | succ d ih =>
    intro c hc
    have h := ih (c + 1) (by omega)
    have ei := pl_v_ix (r := r) (c := c) (by omega)
    refine br_f (nI_ge (b := 4) (by omega) (by decide)) ?_
    refine xs_can v g hr (by omega) (fun z => br_f (by decide) (xs_val ?_)) (fun z => br_t rfl (nm_r (nI_1 c) ?_))
    · have e : pl_v v g (r * 4 + (c + 1)) = pl_v v g (r * 4 + c) + v (r * 4 + c) := pl_v_0 (i := r * 4 + c) (by rw [ei]; exact z)
      rw [e] at h
      rw [nI_clamp (by omega)]
      exact ⟨vp_in_nI (by omega) (by decide), nm_e (nm_r (nI_1 c) h)⟩
    · have e : pl_v v g (r * 4 + (c + 1)) = pl_v v g (r * 4 + c) := pl_v_1 (i := r * 4 + c) (by rw [ei]; exact z)
      rw [e] at h
      exact h
theorem xt_loop {post : Int32 → Prop} (v g : Nat → Int32) (hp : post (pl_v v g 16)) : ∀ d r, r + d = 4 → wX_total_4 post v g (d + 1) (pl_v v g (r * 4)) (nI r) := by
  intro d
  induction d with
  | zero =>
    intro r hr
    obtain rfl : r = 4 := by omega
    exact br_t (nI_le (b := 4) (Nat.le_refl 4) (by decide)) hp
  | succ d ih =>
    intro r hr
    have h := ih (r + 1) (by omega)
    rw [show (r + 1) * 4 = r * 4 + 4 by omega] at h
    exact br_f (nI_ge (b := 4) (by omega) (by decide)) ⟨5, xt_in v g (by omega) h 4 0 rfl⟩
theorem xt_total {post : Int32 → Prop} (v g : Nat → Int32) (hp : post (pl_v v g 16)) : wpX_total post (v, g) :=
  ⟨5, xt_loop v g hp 4 0 rfl⟩
