/-! numbers -/
theorem pm_ix (f i s : Nat) : nI f + nI i * nI s = nI (f + i * s) := by rw [pk_mul, nI_add]
theorem pm_m6 (r : Nat) : nI r * 6 = nI (r * 6) := pk_mul r 6
theorem pm_x6 (r c : Nat) : nI r * 6 + nI c = nI (r * 6 + c) := by rw [pm_m6, nI_add]
theorem pm_m4 (r : Nat) : nI r * 4 = nI (r * 4) := pk_mul r 4
theorem pm_x4 (r c : Nat) : nI r * 4 + nI c = nI (r * 4 + c) := by rw [pm_m4, nI_add]
theorem pm_6m (r : Nat) : 6 * nI r = nI (r * 6) := by
  have h : nI 6 * nI r = nI (6 * r) := pk_mul 6 r
  rw [Nat.mul_comm 6 r] at h
  exact h
theorem pm_y6 (r c : Nat) : 6 * nI r + nI c = nI (r * 6 + c) := by rw [pm_6m, nI_add]
theorem pm_4m (r : Nat) : 4 * nI r = nI (r * 4) := by
  have h : nI 4 * nI r = nI (4 * r) := pk_mul 4 r
  rw [Nat.mul_comm 4 r] at h
  exact h
theorem pm_y4 (r c : Nat) : 4 * nI r + nI c = nI (r * 4 + c) := by rw [pm_4m, nI_add]
theorem pm_in (x : Int32) {n : Nat} (hn : n < 2 ^ 31) : (x < 0 ∨ nI n ≤ x) ∨ ∃ j : Nat, j < n ∧ x = nI j := by
  rcases pk_ix x hn with h | h | h
  · exact Or.inl (Or.inl h)
  · exact Or.inl (Or.inr h)
  · exact Or.inr h
/-! the component's small methods -/
theorem xs_in {post : Int32 → Prop} {j : Nat} (h : j < 6) (hp : post 1) : wpX_isOnSide post (nI j) :=
  br_f (nI_pos (by omega)) (br_f (nI_ge (b := 6) h (by decide)) hp)
theorem xs_out {post : Int32 → Prop} {x : Int32} (h : x < 0 ∨ nI 6 ≤ x) (hp : post 0) : wpX_isOnSide post x := by
  rcases h with h | h
  · exact br_t h hp
  · exact br_c (fun _ => hp) (fun _ => br_t h hp)
theorem xd_in {post : Int32 → Prop} {j : Nat} (h : j < 4) (hp : post 1) : wpX_isOnDataSide post (nI j) :=
  br_f (nI_pos (by omega)) (br_f (nI_ge (b := 4) h (by decide)) hp)
theorem xd_out {post : Int32 → Prop} {x : Int32} (h : x < 0 ∨ nI 4 ≤ x) (hp : post 0) : wpX_isOnDataSide post x := by
  rcases h with h | h
  · exact br_t h hp
  · exact br_c (fun _ => hp) (fun _ => br_t h hp)
theorem xs_cell {post : Int32 → Prop} {r c : Nat} (h : post (nI (r * 6 + c))) : wpX_cellPlace post (nI r) (nI c) := by
  unfold wpX_cellPlace
  rw [pm_x6]
  exact h
theorem xs_val {post : Int32 → Prop} {r c : Nat} (h : post (nI (r * 4 + c))) : wpX_valuePlace post (nI r) (nI c) := by
  unfold wpX_valuePlace
  rw [pm_x4]
  exact h
theorem xs_can {post : Int32 → Prop} (vals g : Nat → Int32) {r c : Nat} (hr : r < 4) (hc : c < 4) (h0 : g (r * 6 + c) = 0 → post 1) (h1 : ¬ g (r * 6 + c) = 0 → post 0) : wpX_canBeRead post (vals, g) (nI r) (nI c) := by
  unfold wpX_canBeRead
  dsimp only
  refine xd_in hr (br_f (by decide) (xd_in hc (br_f (by decide) (xs_cell ?_))))
  rw [nI_clamp (by omega)]
  exact ⟨vp_in_nI (by omega) (by decide), h0, h1⟩
theorem xs_can_o1 {post : Int32 → Prop} {vals g : Nat → Int32} {x y : Int32} (h : x < 0 ∨ nI 4 ≤ x) (hp : post 0) : wpX_canBeRead post (vals, g) x y := by
  unfold wpX_canBeRead
  dsimp only
  exact xd_out h (br_t rfl hp)
theorem xs_can_o2 {post : Int32 → Prop} {vals g : Nat → Int32} {r : Nat} {y : Int32} (hr : r < 4) (h : y < 0 ∨ nI 4 ≤ y) (hp : post 0) : wpX_canBeRead post (vals, g) (nI r) y := by
  unfold wpX_canBeRead
  dsimp only
  exact xd_in hr (br_f (by decide) (xd_out h (br_t rfl hp)))
/-! read, write -/
theorem xr_read {post : Int32 → Prop} (vals g : Nat → Int32) {r c : Nat} (hr : r < 4) (hc : c < 4) (h0 : g (r * 6 + c) = 0 → post (vals (r * 4 + c))) (h1 : ¬ g (r * 6 + c) = 0 → post (-1)) : wpX_read post (vals, g) (nI r) (nI c) := by
  unfold wpX_read
  dsimp only
  refine xs_can vals g hr hc (fun z => br_f (by decide) (xs_val ?_)) (fun z => br_t rfl (h1 z))
  rw [nI_clamp (by omega)]
  exact ⟨vp_in_nI (by omega) (by decide), h0 z⟩
theorem xr_read_o1 {post : Int32 → Prop} {vals g : Nat → Int32} {x y : Int32} (h : x < 0 ∨ nI 4 ≤ x) (hp : post (-1)) : wpX_read post (vals, g) x y := by
  unfold wpX_read
  dsimp only
  exact xs_can_o1 h (br_t rfl hp)
theorem xr_read_o2 {post : Int32 → Prop} {vals g : Nat → Int32} {r : Nat} {y : Int32} (hr : r < 4) (h : y < 0 ∨ nI 4 ≤ y) (hp : post (-1)) : wpX_read post (vals, g) (nI r) y := by
  unfold wpX_read
  dsimp only
  exact xs_can_o2 hr h (br_t rfl hp)
theorem xr_write {post : Int32 → SX → Prop} (vals g : Nat → Int32) {r c : Nat} (p : Int32) (hr : r < 4) (hc : c < 4) (h0 : g (r * 6 + c) = 0 → post (vals (r * 4 + c)) (upd vals (r * 4 + c) (p &&& 255), g)) (h1 : ¬ g (r * 6 + c) = 0 → post (-1) (vals, g)) : wpX_write post (vals, g) (nI r) (nI c) p := by
  unfold wpX_write
  dsimp only
  refine xs_can vals g hr hc (fun z => br_f (by decide) (xs_val ?_)) (fun z => br_t rfl (h1 z))
  rw [nI_clamp (by omega)]
  exact ⟨vp_in_nI (by omega) (by decide), nm_e ⟨vp_in_nI (by omega) (by decide), nm_e (h0 z)⟩⟩
theorem xr_write_o1 {post : Int32 → SX → Prop} {vals g : Nat → Int32} {x y p : Int32} (h : x < 0 ∨ nI 4 ≤ x) (hp : post (-1) (vals, g)) : wpX_write post (vals, g) x y p := by
  unfold wpX_write
  dsimp only
  exact xs_can_o1 h (br_t rfl hp)
theorem xr_write_o2 {post : Int32 → SX → Prop} {vals g : Nat → Int32} {r : Nat} {y p : Int32} (hr : r < 4) (h : y < 0 ∨ nI 4 ≤ y) (hp : post (-1) (vals, g)) : wpX_write post (vals, g) (nI r) y p := by
  unfold wpX_write
  dsimp only
  exact xs_can_o2 hr h (br_t rfl hp)
/-! lose, lost -/
theorem xr_lose36 {post : Int32 → SX → Prop} (z0 : Int32) (vals g : Nat → Int32) {p : Nat} (hp36 : p < 36) (hp : post z0 (vals, upd g p 1)) : wX_lose_36 post (nI p) z0 vals g := by
  unfold wX_lose_36
  rw [nI_clamp (by omega), pb_1]
  exact ⟨vp_in_nI hp36 (by decide), nm_e hp⟩
theorem xr_lose {post : Int32 → SX → Prop} (vals g : Nat → Int32) {r c : Nat} (hr : r < 6) (hc : c < 6) (h0 : g (r * 6 + c) = 0 → post 1 (vals, upd g (r * 6 + c) 1)) (h1 : ¬ g (r * 6 + c) = 0 → post 0 (vals, upd g (r * 6 + c) 1)) : wpX_lose post (vals, g) (nI r) (nI c) := by
  unfold wpX_lose
  dsimp only
  refine xs_in hr (br_f (by decide) (xs_in hc (br_f (by decide) (xs_cell ?_))))
  rw [nI_clamp (by omega)]
  exact ⟨vp_in_nI (by omega) (by decide), br_c (fun z => xr_lose36 1 vals g (by omega) (h0 z)) (fun z => xr_lose36 0 vals g (by omega) (h1 z))⟩
theorem xr_lose_o1 {post : Int32 → SX → Prop} {vals g : Nat → Int32} {x y : Int32} (h : x < 0 ∨ nI 6 ≤ x) (hp : post (-1) (vals, g)) : wpX_lose post (vals, g) x y := by
  unfold wpX_lose
  dsimp only
  exact xs_out h (br_t rfl hp)
theorem xr_lose_o2 {post : Int32 → SX → Prop} {vals g : Nat → Int32} {r : Nat} {y : Int32} (hr : r < 6) (h : y < 0 ∨ nI 6 ≤ y) (hp : post (-1) (vals, g)) : wpX_lose post (vals, g) (nI r) y := by
  unfold wpX_lose
  dsimp only
  exact xs_in hr (br_f (by decide) (xs_out h (br_t rfl hp)))
theorem xr_lost {post : Int32 → Prop} (vals g : Nat → Int32) {r c : Nat} (hr : r < 6) (hc : c < 6) (h0 : g (r * 6 + c) = 0 → post 0) (h1 : ¬ g (r * 6 + c) = 0 → post 1) : wpX_lost post (vals, g) (nI r) (nI c) := by
  unfold wpX_lost
  dsimp only
  refine xs_in hr (br_f (by decide) (xs_in hc (br_f (by decide) (xs_cell ?_))))
  rw [nI_clamp (by omega)]
  exact ⟨vp_in_nI (by omega) (by decide), h0, h1⟩
theorem xr_lost_o1 {post : Int32 → Prop} {vals g : Nat → Int32} {x y : Int32} (h : x < 0 ∨ nI 6 ≤ x) (hp : post (-1)) : wpX_lost post (vals, g) x y := by
  unfold wpX_lost
  dsimp only
  exact xs_out h (br_t rfl hp)
theorem xr_lost_o2 {post : Int32 → Prop} {vals g : Nat → Int32} {r : Nat} {y : Int32} (hr : r < 6) (h : y < 0 ∨ nI 6 ≤ y) (hp : post (-1)) : wpX_lost post (vals, g) (nI r) y := by
  unfold wpX_lost
  dsimp only
  exact xs_in hr (br_f (by decide) (xs_out h (br_t rfl hp)))
/-! lines: count, set, lose, mend -/
theorem xl_loop {post : Int32 → Prop} (vals g : Nat → Int32) {f s : Nat} (hf : f + 5 * s < 36) (hp : post (nI (pl_c g f s 6))) : ∀ d i, i + d = 6 → wX_lostInLine_5 post (nI f) (nI s) vals g (d + 1) (nI (pl_c g f s i)) (nI i) := by
  intro d
  induction d with
  | zero =>
    intro i hi
    obtain rfl : i = 6 := by omega
    exact br_t (nI_le (b := 6) (Nat.le_refl 6) (by decide)) hp
  | succ d ih =>
    intro i hi
    have hix : i * s ≤ 5 * s := Nat.mul_le_mul_right s (by omega)
    have e := pm_ix f i s
    have ec : (nI f + nI i * nI s).toNatClampNeg = f + i * s := by rw [e]; exact nI_clamp (by omega)
    have hin : vp_in (nI f + nI i * nI s) 36 := by rw [e]; exact vp_in_nI (by omega) (by decide)
    refine br_f (nI_ge (b := 6) (by omega) (by decide)) ⟨hin, ?_⟩
    rw [ec]
    have h := ih (i + 1) (by omega)
    by_cases z : g (f + i * s) = 0
    · rw [pl_c_s0 z] at h
      exact br_t z (nm_r (nI_1 i) h)
    · rw [pl_c_s1 z] at h
      exact br_f z (nm_r (nI_1 _) (nm_r (nI_1 i) h))
theorem xl_lost {post : Int32 → Prop} (vals g : Nat → Int32) {f s : Nat} (hf : f + 5 * s < 36) (hp : post (nI (pl_c g f s 6))) : wpX_lostInLine post (vals, g) (nI f) (nI s) :=
  ⟨7, xl_loop vals g hf hp 6 0 rfl⟩
theorem xm_loop {post : SX → Prop} (vals g : Nat → Int32) {f s : Nat} (x : Int32) (hx : vp_nar .boolean x = x) (hf : f + 5 * s < 36) (hp : post (vals, pl_k g f s x 6)) : ∀ d i, i + d = 6 → wX_markLine_3 post (nI f) (nI s) x (d + 1) (nI i) vals (pl_k g f s x i) := by
  intro d
  induction d with
  | zero =>
    intro i hi
    obtain rfl : i = 6 := by omega
    exact br_t (nI_le (b := 6) (Nat.le_refl 6) (by decide)) hp
  | succ d ih =>
    intro i hi
    have hix : i * s ≤ 5 * s := Nat.mul_le_mul_right s (by omega)
    have e := pm_ix f i s
    have ec : (nI f + nI i * nI s).toNatClampNeg = f + i * s := by rw [e]; exact nI_clamp (by omega)
    have hin : vp_in (nI f + nI i * nI s) 36 := by rw [e]; exact vp_in_nI (by omega) (by decide)
    have eu : upd (pl_k g f s x i) (nI f + nI i * nI s).toNatClampNeg (vp_nar .boolean x) = pl_k g f s x (i + 1) := by rw [ec, hx]; rfl
    exact br_f (nI_ge (b := 6) (by omega) (by decide)) ⟨hin, nm_r eu (nm_r (nI_1 i) (ih (i + 1) (by omega)))⟩
theorem xm_mark {post : SX → Prop} (vals g : Nat → Int32) {f s : Nat} (x : Int32) (hx : vp_nar .boolean x = x) (hf : f + 5 * s < 36) (hp : post (vals, pl_k g f s x 6)) : wpX_markLine post (vals, g) (nI f) (nI s) x :=
  ⟨7, xm_loop vals g x hx hf hp 6 0 rfl⟩
theorem xm_lose {post : Int32 → SX → Prop} (vals g : Nat → Int32) {f s : Nat} (hf : f + 5 * s < 36) (hp : post (nI (6 - pl_c g f s 6)) (vals, pl_k g f s 1 6)) : wpX_loseLine post (vals, g) (nI f) (nI s) := by
  have e : (6 : Int32) - nI (pl_c g f s 6) = nI (6 - pl_c g f s 6) := pk_sub (a := 6) (pl_c_le g f s 6)
  rw [← e] at hp
  unfold wpX_loseLine
  dsimp only
  refine xl_lost vals g hf ?_
  exact xm_mark vals g 1 pb_1 hf hp
theorem xm_line {post : Int32 → SX → Prop} (vals g : Nat → Int32) {f s : Nat} (hf : f + 5 * s < 36) (hp : post (nI (pl_a g f s)) (vals, pl_l g f s)) : wpX_mendLine post (vals, g) (nI f) (nI s) := by
  unfold wpX_mendLine
  dsimp only
  refine xl_lost vals g hf ?_
  by_cases h : pl_c g f s 6 ≤ 2
  · rw [pl_a_t h, pl_l_t h] at hp
    exact br_t (nI_le (b := 2) h (by decide)) (xm_mark vals g 0 pb_0 hf hp)
  · rw [pl_a_f h, pl_l_f h] at hp
    have hle := pl_c_le g f s 6
    exact br_f (nI_ge (a := 2) (by omega) (by omega)) hp
