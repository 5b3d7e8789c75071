/-! the reference -/
theorem ys_in {post : Int32 → Prop} {j m : Nat} (h : j ≤ m) (hm : m < 2 ^ 31) (hp : post 0) : wpY_outside post (nI j) (nI m) :=
  br_f (nI_pos (by omega)) (br_t (nI_le h hm) hp)
theorem ys_out {post : Int32 → Prop} {x : Int32} (m : Nat) (hm : m + 1 < 2 ^ 31) (h : x < 0 ∨ nI (m + 1) ≤ x) (hp : post 1) : wpY_outside post x (nI m) := by
  rcases h with h | h
  · exact br_t h hp
  · refine br_c (fun _ => hp) (fun h0 => ?_)
    obtain ⟨j, hj, rfl⟩ := nI_of h0
    rw [nI_leI hm hj] at h
    exact br_f (nI_ge (by omega) hj) hp
theorem yr_read {post : Int32 → Prop} (vals g : Nat → Int32) {r c : Nat} (hr : r < 4) (hc : c < 4) (h0 : g (r * 6 + c) = 0 → post (vals (r * 4 + c))) (h1 : ¬ g (r * 6 + c) = 0 → post (-1)) : wpY_read post (vals, g) (nI r) (nI c) := by
  unfold wpY_read
  dsimp only
  refine ys_in (m := 3) (by omega) (by decide) (br_t rfl (ys_in (m := 3) (by omega) (by decide) (br_t rfl ?_)))
  rw [pm_y6 r c, pm_y4 r c, nI_clamp (n := r * 6 + c) (by omega), nI_clamp (n := r * 4 + c) (by omega)]
  exact ⟨vp_in_nI (by omega) (by decide), br_c (fun z => ⟨vp_in_nI (by omega) (by decide), h0 z⟩) h1⟩
theorem yr_read_o1 {post : Int32 → Prop} {vals g : Nat → Int32} {x y : Int32} (h : x < 0 ∨ nI 4 ≤ x) (hp : post (-1)) : wpY_read post (vals, g) x y := by
  unfold wpY_read
  dsimp only
  exact ys_out 3 (by decide) h (br_f (by decide) hp)
theorem yr_read_o2 {post : Int32 → Prop} {vals g : Nat → Int32} {r : Nat} {y : Int32} (hr : r < 4) (h : y < 0 ∨ nI 4 ≤ y) (hp : post (-1)) : wpY_read post (vals, g) (nI r) y := by
  unfold wpY_read
  dsimp only
  exact ys_in (m := 3) (by omega) (by decide) (br_t rfl (ys_out 3 (by decide) h (br_f (by decide) hp)))
theorem yr_write {post : Int32 → SY → Prop} (vals g : Nat → Int32) {r c : Nat} (p : Int32) (hr : r < 4) (hc : c < 4) (h0 : g (r * 6 + c) = 0 → post (vals (r * 4 + c)) (upd vals (r * 4 + c) (p &&& 255), g)) (h1 : ¬ g (r * 6 + c) = 0 → post (-1) (vals, g)) : wpY_write post (vals, g) (nI r) (nI c) p := by
  unfold wpY_write
  dsimp only
  refine ys_in (m := 3) (by omega) (by decide) (br_t rfl (ys_in (m := 3) (by omega) (by decide) (br_t rfl ?_)))
  rw [pm_y6 r c, pm_y4 r c, nI_clamp (n := r * 6 + c) (by omega), nI_clamp (n := r * 4 + c) (by omega)]
  exact ⟨vp_in_nI (by omega) (by decide), br_c (fun z => ⟨vp_in_nI (by omega) (by decide), nm_e ⟨vp_in_nI (by omega) (by decide), nm_e (h0 z)⟩⟩) h1⟩
theorem yr_write_o1 {post : Int32 → SY → Prop} {vals g : Nat → Int32} {x y p : Int32} (h : x < 0 ∨ nI 4 ≤ x) (hp : post (-1) (vals, g)) : wpY_write post (vals, g) x y p := by
  unfold wpY_write
  dsimp only
  exact ys_out 3 (by decide) h (br_f (by decide) hp)
theorem yr_write_o2 {post : Int32 → SY → Prop} {vals g : Nat → Int32} {r : Nat} {y p : Int32} (hr : r < 4) (h : y < 0 ∨ nI 4 ≤ y) (hp : post (-1) (vals, g)) : wpY_write post (vals, g) (nI r) y p := by
  unfold wpY_write
  dsimp only
  exact ys_in (m := 3) (by omega) (by decide) (br_t rfl (ys_out 3 (by decide) h (br_f (by decide) hp)))
theorem yr_lose37 {post : Int32 → SY → Prop} (z0 : Int32) (vals g : Nat → Int32) {r c : Nat} (p : Nat) (e : r * 6 + c = p) (hp36 : p < 36) (hp : post z0 (vals, upd g p 1)) : wY_lose_37 post (nI r) (nI c) z0 vals g := by
  unfold wY_lose_37
  rw [pm_y6 r c, e, nI_clamp (by omega), pb_1]
  exact ⟨vp_in_nI hp36 (by decide), nm_e hp⟩
theorem yr_lose {post : Int32 → SY → Prop} (vals g : Nat → Int32) {r c : Nat} (p : Nat) (e : r * 6 + c = p) (hr : r < 6) (hc : c < 6) (h0 : g p = 0 → post 1 (vals, upd g p 1)) (h1 : ¬ g p = 0 → post 0 (vals, upd g p 1)) : wpY_lose post (vals, g) (nI r) (nI c) := by
  have hp36 : p < 36 := by omega
  unfold wpY_lose
  dsimp only
  refine ys_in (m := 5) (by omega) (by decide) (br_t rfl (ys_in (m := 5) (by omega) (by decide) (br_t rfl ?_)))
  rw [pm_y6 r c, e, nI_clamp (n := p) (by omega)]
  exact ⟨vp_in_nI hp36 (by decide), br_c (fun z => yr_lose37 1 vals g p e hp36 (h0 z)) (fun z => yr_lose37 0 vals g p e hp36 (h1 z))⟩
theorem yr_lose_o1 {post : Int32 → SY → Prop} {vals g : Nat → Int32} {x y : Int32} (h : x < 0 ∨ nI 6 ≤ x) (hp : post (-1) (vals, g)) : wpY_lose post (vals, g) x y := by
  unfold wpY_lose
  dsimp only
  exact ys_out 5 (by decide) h (br_f (by decide) hp)
theorem yr_lose_o2 {post : Int32 → SY → Prop} {vals g : Nat → Int32} {r : Nat} {y : Int32} (hr : r < 6) (h : y < 0 ∨ nI 6 ≤ y) (hp : post (-1) (vals, g)) : wpY_lose post (vals, g) (nI r) y := by
  unfold wpY_lose
  dsimp only
  exact ys_in (m := 5) (by omega) (by decide) (br_t rfl (ys_out 5 (by decide) h (br_f (by decide) hp)))
theorem yr_lost {post : Int32 → Prop} (vals g : Nat → Int32) {r c : Nat} (hr : r < 6) (hc : c < 6) (h0 : g (r * 6 + c) = 0 → post 0) (h1 : ¬ g (r * 6 + c) = 0 → post 1) : wpY_lost post (vals, g) (nI r) (nI c) := by
  unfold wpY_lost
  dsimp only
  refine ys_in (m := 5) (by omega) (by decide) (br_t rfl (ys_in (m := 5) (by omega) (by decide) (br_t rfl ?_)))
  rw [pm_y6 r c, nI_clamp (by omega)]
  exact ⟨vp_in_nI (by omega) (by decide), h0, h1⟩
theorem yr_lost_o1 {post : Int32 → Prop} {vals g : Nat → Int32} {x y : Int32} (h : x < 0 ∨ nI 6 ≤ x) (hp : post (-1)) : wpY_lost post (vals, g) x y := by
  unfold wpY_lost
  dsimp only
  exact ys_out 5 (by decide) h (br_f (by decide) hp)
theorem yr_lost_o2 {post : Int32 → Prop} {vals g : Nat → Int32} {r : Nat} {y : Int32} (hr : r < 6) (h : y < 0 ∨ nI 6 ≤ y) (hp : post (-1)) : wpY_lost post (vals, g) (nI r) y := by
  unfold wpY_lost
  dsimp only
  exact ys_in (m := 5) (by omega) (by decide) (br_t rfl (ys_out 5 (by decide) h (br_f (by decide) hp)))
/-! lines lost -/
theorem yz_row {post : Int32 → SY → Prop} (vals g : Nat → Int32) {r : Nat} (hr : r < 6) (hp : post (nI (6 - pl_c g (r * 6) 1 6)) (vals, pl_k g (r * 6) 1 1 6)) : ∀ d i, i + d = 6 → wY_loseRow_14 post (nI r) (d + 1) (nI (i - pl_c g (r * 6) 1 i)) (nI i) vals (pl_k g (r * 6) 1 1 i) := by
  intro d
  induction d with
  | zero =>
    intro i hi
    obtain rfl : i = 6 := by omega
    exact br_t (nI_le (b := 6) (Nat.le_refl 6) (by decide)) hp
  | succ d ih =>
    intro i hi
    have hle := pl_c_le g (r * 6) 1 i
    have ho := pl_k_off g (r * 6) (s := 1) 1 (by decide) i i (Nat.le_refl i)
    have h := ih (i + 1) (by omega)
    refine br_f (nI_ge (b := 6) (by omega) (by decide)) ?_
    refine yr_lose vals (pl_k g (r * 6) 1 1 i) (r * 6 + i * 1) (by omega) hr (by omega) (fun z => ?_) (fun z => ?_)
    · rw [ho] at z
      have e : nI (i - pl_c g (r * 6) 1 i) + 1 = nI (i + 1 - pl_c g (r * 6) 1 (i + 1)) := by
        rw [nI_1, pl_c_s0 z]
        exact congrArg nI (by omega)
      exact nm_r e (nm_r (nI_1 i) h)
    · rw [ho] at z
      have e : nI (i - pl_c g (r * 6) 1 i) + 0 = nI (i + 1 - pl_c g (r * 6) 1 (i + 1)) := by
        rw [Int32.add_zero, pl_c_s1 z]
        exact congrArg nI (by omega)
      exact nm_r e (nm_r (nI_1 i) h)
theorem yz_col {post : Int32 → SY → Prop} (vals g : Nat → Int32) {r : Nat} (hr : r < 6) (hp : post (nI (6 - pl_c g r 6 6)) (vals, pl_k g r 6 1 6)) : ∀ d i, i + d = 6 → wY_loseColumn_14 post (nI r) (d + 1) (nI (i - pl_c g r 6 i)) (nI i) vals (pl_k g r 6 1 i) := by
  intro d
  induction d with
  | zero =>
    intro i hi
    obtain rfl : i = 6 := by omega
    exact br_t (nI_le (b := 6) (Nat.le_refl 6) (by decide)) hp
  | succ d ih =>
    intro i hi
    have hle := pl_c_le g r 6 i
    have ho := pl_k_off g r (s := 6) 1 (by decide) i i (Nat.le_refl i)
    have h := ih (i + 1) (by omega)
    refine br_f (nI_ge (b := 6) (by omega) (by decide)) ?_
    refine yr_lose vals (pl_k g r 6 1 i) (r + i * 6) (by omega) (by omega) hr (fun z => ?_) (fun z => ?_)
    · rw [ho] at z
      have e : nI (i - pl_c g r 6 i) + 1 = nI (i + 1 - pl_c g r 6 (i + 1)) := by
        rw [nI_1, pl_c_s0 z]
        exact congrArg nI (by omega)
      exact nm_r e (nm_r (nI_1 i) h)
    · rw [ho] at z
      have e : nI (i - pl_c g r 6 i) + 0 = nI (i + 1 - pl_c g r 6 (i + 1)) := by
        rw [Int32.add_zero, pl_c_s1 z]
        exact congrArg nI (by omega)
      exact nm_r e (nm_r (nI_1 i) h)
theorem yr_loseRow {post : Int32 → SY → Prop} (vals g : Nat → Int32) {r : Nat} (hr : r < 6) (hp : post (nI (6 - pl_c g (r * 6) 1 6)) (vals, pl_k g (r * 6) 1 1 6)) : wpY_loseRow post (vals, g) (nI r) := by
  unfold wpY_loseRow
  dsimp only
  exact ys_in (m := 5) (by omega) (by decide) (br_t rfl ⟨7, yz_row vals g hr hp 6 0 rfl⟩)
theorem yr_loseRow_o {post : Int32 → SY → Prop} {vals g : Nat → Int32} {x : Int32} (h : x < 0 ∨ nI 6 ≤ x) (hp : post (-1) (vals, g)) : wpY_loseRow post (vals, g) x := by
  unfold wpY_loseRow
  dsimp only
  exact ys_out 5 (by decide) h (br_f (by decide) hp)
theorem yr_loseCol {post : Int32 → SY → Prop} (vals g : Nat → Int32) {r : Nat} (hr : r < 6) (hp : post (nI (6 - pl_c g r 6 6)) (vals, pl_k g r 6 1 6)) : wpY_loseColumn post (vals, g) (nI r) := by
  unfold wpY_loseColumn
  dsimp only
  exact ys_in (m := 5) (by omega) (by decide) (br_t rfl ⟨7, yz_col vals g hr hp 6 0 rfl⟩)
theorem yr_loseCol_o {post : Int32 → SY → Prop} {vals g : Nat → Int32} {x : Int32} (h : x < 0 ∨ nI 6 ≤ x) (hp : post (-1) (vals, g)) : wpY_loseColumn post (vals, g) x := by
  unfold wpY_loseColumn
  dsimp only
  exact ys_out 5 (by decide) h (br_f (by decide) hp)
