/-! the reference: lines mended, passes, mend -/
theorem yk_loop {post : Int32 → SY → Prop} (x : Int32) (vals g : Nat → Int32) {f s : Nat} (hf : f + 5 * s < 36) (hp : post x (vals, pl_k g f s 0 6)) : ∀ d i, i + d = 6 → wY_mendLine_45 post (nI f) (nI s) x (d + 1) (nI i) vals (pl_k g f s 0 i) := by
  intro d
  induction d with
  | zero =>
    intro i hi
    obtain rfl : i = 6 := by omega
    exact br_t (nI_le (b := 6) (Nat.le_refl 6) (by decide)) hp
  | succ d ih =>
    intro i hi
    have hix : i * s ≤ 5 * s := Nat.mul_le_mul_right s (by omega)
    have e := pm_ix f i s
    have ec : (nI f + nI i * nI s).toNatClampNeg = f + i * s := by rw [e]; exact nI_clamp (by omega)
    have hin : vp_in (nI f + nI i * nI s) 36 := by rw [e]; exact vp_in_nI (by omega) (by decide)
    have eu : upd (pl_k g f s 0 i) (nI f + nI i * nI s).toNatClampNeg (vp_nar .boolean 0) = pl_k g f s 0 (i + 1) := by rw [ec, pb_0]; rfl
    exact br_f (nI_ge (b := 6) (by omega) (by decide)) ⟨hin, nm_r eu (nm_r (nI_1 i) (ih (i + 1) (by omega)))⟩
theorem yl_loop {post : Int32 → SY → Prop} (vals g : Nat → Int32) {f s : Nat} (hf : f + 5 * s < 36) (hp : post (nI (pl_a g f s)) (vals, pl_l g f s)) : ∀ d i, i + d = 6 → wY_mendLine_5 post (nI f) (nI s) vals g (d + 1) (nI (pl_c g f s i)) (nI i) := by
  intro d
  induction d with
  | zero =>
    intro i hi
    obtain rfl : i = 6 := by omega
    refine br_t (nI_le (b := 6) (Nat.le_refl 6) (by decide)) ?_
    by_cases h : pl_c g f s 6 ≤ 2
    · rw [pl_a_t h, pl_l_t h] at hp
      exact br_t (nI_le (b := 2) h (by decide)) ⟨7, yk_loop (nI (pl_c g f s 6)) vals g hf hp 6 0 rfl⟩
    · rw [pl_a_f h, pl_l_f h] at hp
      have hle := pl_c_le g f s 6
      exact br_f (nI_ge (a := 2) (by omega) (by omega)) hp
  | succ d ih =>
    intro i hi
    have hix : i * s ≤ 5 * s := Nat.mul_le_mul_right s (by omega)
    have e := pm_ix f i s
    have ec : (nI f + nI i * nI s).toNatClampNeg = f + i * s := by rw [e]; exact nI_clamp (by omega)
    have hin : vp_in (nI f + nI i * nI s) 36 := by rw [e]; exact vp_in_nI (by omega) (by decide)
    refine br_f (nI_ge (b := 6) (by omega) (by decide)) ⟨hin, ?_⟩
    rw [ec]
    have h := ih (i + 1) (by omega)
    by_cases z : g (f + i * s) = 0
    · rw [pl_c_s0 z] at h
      exact br_t z (nm_r (nI_1 i) h)
    · rw [pl_c_s1 z] at h
      exact br_f z (nm_r (nI_1 _) (nm_r (nI_1 i) h))
theorem yl_line {post : Int32 → SY → Prop} (vals g : Nat → Int32) {f s : Nat} (hf : f + 5 * s < 36) (hp : post (nI (pl_a g f s)) (vals, pl_l g f s)) : wpY_mendLine post (vals, g) (nI f) (nI s) :=
  ⟨7, yl_loop vals g hf hp 6 0 rfl⟩
theorem yr_mendRow {post : Int32 → SY → Prop} (vals g : Nat → Int32) {r : Nat} (hr : r < 6) (hp : post (nI (pl_a g (r * 6) 1)) (vals, pl_l g (r * 6) 1)) : wpY_mendRow post (vals, g) (nI r) := by
  unfold wpY_mendRow
  dsimp only
  refine ys_in (m := 5) (by omega) (by decide) (br_t rfl ?_)
  rw [pm_6m r]
  exact yl_line (s := 1) vals g (by omega) hp
theorem yr_mendRow_o {post : Int32 → SY → Prop} {vals g : Nat → Int32} {x : Int32} (h : x < 0 ∨ nI 6 ≤ x) (hp : post (-1) (vals, g)) : wpY_mendRow post (vals, g) x := by
  unfold wpY_mendRow
  dsimp only
  exact ys_out 5 (by decide) h (br_f (by decide) hp)
theorem yr_mendCol {post : Int32 → SY → Prop} (vals g : Nat → Int32) {r : Nat} (hr : r < 6) (hp : post (nI (pl_a g r 6)) (vals, pl_l g r 6)) : wpY_mendColumn post (vals, g) (nI r) := by
  unfold wpY_mendColumn
  dsimp only
  refine ys_in (m := 5) (by omega) (by decide) (br_t rfl ?_)
  exact yl_line (s := 6) vals g (by omega) hp
theorem yr_mendCol_o {post : Int32 → SY → Prop} {vals g : Nat → Int32} {x : Int32} (h : x < 0 ∨ nI 6 ≤ x) (hp : post (-1) (vals, g)) : wpY_mendColumn post (vals, g) x := by
  unfold wpY_mendColumn
  dsimp only
  exact ys_out 5 (by decide) h (br_f (by decide) hp)
theorem yp_loop {post : Int32 → SY → Prop} {J : Int32 → Int32 → Int32 → (Nat → Int32) → (Nat → Int32) → Prop} (x3 : Int32) (vals g : Nat → Int32) (s : Nat) (hs : s < 2 ^ 30) (h0 : pl_t g 6 = 0 → J (nI s) 0 (x3 + 1) vals (pl_s g 6)) (h1 : ¬ pl_t g 6 = 0 → J (nI (s + pl_t g 6)) 1 (x3 + 1) vals (pl_s g 6)) : ∀ d i, i + d = 6 → wY_mend_22 post J x3 (nI s) (d + 1) (nI (s + pl_t g i)) (nI i) vals (pl_s g i) := by
  intro d
  induction d with
  | zero =>
    intro i hi
    obtain rfl : i = 6 := by omega
    have hle := pl_t_le g 6
    refine br_t (nI_le (b := 6) (Nat.le_refl 6) (by decide)) ?_
    by_cases z : pl_t g 6 = 0
    · rw [z, Nat.add_zero]
      exact br_t (nI_le (Nat.le_refl s) (by omega)) (nm_e (h0 z))
    · exact br_f (nI_ge (by omega) (by omega)) (nm_e (h1 z))
  | succ d ih =>
    intro i hi
    have h := ih (i + 1) (by omega)
    rw [pl_t_s, ← Nat.add_assoc, ← Nat.add_assoc] at h
    refine br_f (nI_ge (b := 6) (by omega) (by decide)) ?_
    refine yr_mendRow vals (pl_s g i) (by omega) ?_
    dsimp only
    refine nm_r (nI_add _ _) ?_
    refine yr_mendCol vals (pl_l (pl_s g i) (i * 6) 1) (by omega) ?_
    dsimp only
    exact nm_r (nI_add _ _) (nm_r (nI_1 i) h)
theorem yq_loop {post : Int32 → SY → Prop} (vals : Nat → Int32) : ∀ (k r s : Nat) (g : Nat → Int32), k + r + 1 ≤ 37 → s ≤ 24 * r → pl_m g 6 ≤ k → post (nI (s + pl_su k g)) (vals, pl_it k g) → wY_mend_6 post (k + 2) (nI s) 1 (nI r) vals g := by
  intro k
  induction k with
  | zero =>
    intro r s g hr hs hm hp
    have hz : pl_t g 6 = 0 := by
      by_cases z : pl_t g 6 = 0
      · exact z
      · have h := pl_fall z
        omega
    have ho : wY_mend_6 post 1 (nI s) 0 (nI r + 1) vals (pl_s g 6) := by
      rw [pl_fix hz]
      exact br_c (fun _ => hp) (fun _ => br_t rfl hp)
    have h := yp_loop (post := post) (J := wY_mend_6 post 1) (nI r) vals g s (by omega) (fun _ => ho) (fun z => absurd hz z) 6 0 rfl
    exact br_f (nI_ge (b := 37) (by omega) (by decide)) (br_f (by decide) ⟨7, h⟩)
  | succ k ih =>
    intro r s g hr hs hm hp
    have hle := pl_t_le g 6
    have h := yp_loop (post := post) (J := wY_mend_6 post (k + 2)) (nI r) vals g s (by omega)
      (fun z => by
        have hst := pl_stay z (k + 1)
        rw [hst.1, hst.2, Nat.add_zero] at hp
        rw [pl_fix z]
        exact br_c (fun _ => hp) (fun _ => br_t rfl hp))
      (fun z => by
        have hf := pl_fall z
        rw [pl_su_s, pl_it_s, ← Nat.add_assoc] at hp
        rw [nI_1]
        exact ih (r + 1) (s + pl_t g 6) (pl_s g 6) (by omega) (by omega) (by omega) hp)
      6 0 rfl
    exact br_f (nI_ge (b := 37) (by omega) (by decide)) (br_f (by decide) ⟨7, h⟩)
theorem yq_mend {post : Int32 → SY → Prop} (vals g : Nat → Int32) (hp : post (nI (pl_su 12 g)) (vals, pl_it 12 g)) : wpY_mend post (vals, g) := by
  rw [← Nat.zero_add (pl_su 12 g)] at hp
  exact ⟨14, yq_loop vals 12 0 0 g (by decide) (by decide) (pl_m_le g 6) hp⟩
/-! losses, total -/
theorem yo_loop {post : Int32 → Prop} (vals g : Nat → Int32) (hp : post (pl_o g 36)) : ∀ d i, i + d = 36 → wY_losses_4 post vals g (d + 1) (pl_o g i) (nI i) := by
  intro d
  induction d with
  | zero =>
    intro i hi
    obtain rfl : i = 36 := by omega
    exact br_t (nI_le (b := 36) (Nat.le_refl 36) (by decide)) hp
  | succ d ih =>
    intro i hi
    have ec : (nI i).toNatClampNeg = i := nI_clamp (by omega)
    refine br_f (nI_ge (b := 36) (by omega) (by decide)) ⟨vp_in_nI (by omega) (by decide), ?_⟩
    rw [ec]
    have h := ih (i + 1) (by omega)
    by_cases z : g i = 0
    · rw [pl_o_0 z] at h
      exact br_t z (nm_r (nI_1 i) h)
    · rw [pl_o_1 z] at h
      exact br_f z (nm_e (nm_r (nI_1 i) h))
theorem yo_losses {post : Int32 → Prop} (vals g : Nat → Int32) (hp : post (pl_o g 36)) : wpY_losses post (vals, g) :=
  ⟨37, yo_loop vals g hp 36 0 rfl⟩
theorem yt_ix {i : Nat} (hi : i < 16) : 6 * (nI i / 4) + (nI i - nI i / 4 * 4) = nI (i / 4 * 6 + i % 4) := by
  have e1 : nI i - nI i / 4 * 4 = nI (i % 4) := pk_rem (d := 4) (by omega) (by decide) (by decide)
  have e2 : nI i / 4 = nI (i / 4) := pk_div (d := 4) (by omega) (by decide) (by decide)
  rw [e1, e2]
  exact pm_y6 (i / 4) (i % 4)
theorem yt_loop {post : Int32 → Prop} (v g : Nat → Int32) (hp : post (pl_v v g 16)) : ∀ d i, i + d = 16 → wY_total_4 post v g (d + 1) (pl_v v g i) (nI i) := by
  intro d
  induction d with
  | zero =>
    intro i hi
    obtain rfl : i = 16 := by omega
    exact br_t (nI_le (b := 16) (Nat.le_refl 16) (by decide)) hp
  | succ d ih =>
    intro i hi
    have h := ih (i + 1) (by omega)
    have e := yt_ix (i := i) (by omega)
    have ec : (6 * (nI i / 4) + (nI i - nI i / 4 * 4)).toNatClampNeg = i / 4 * 6 + i % 4 := by rw [e]; exact nI_clamp (by omega)
    have hin : vp_in (6 * (nI i / 4) + (nI i - nI i / 4 * 4)) 36 := by rw [e]; exact vp_in_nI (by omega) (by decide)
    have ei : (nI i).toNatClampNeg = i := nI_clamp (by omega)
    refine br_f (nI_ge (b := 16) (by omega) (by decide)) ⟨by decide, by decide, hin, ?_⟩
    rw [ec, ei]
    by_cases z : g (i / 4 * 6 + i % 4) = 0
    · rw [pl_v_0 z] at h
      exact br_t z ⟨vp_in_nI (by omega) (by decide), nm_e (nm_r (nI_1 i) h)⟩
    · rw [pl_v_1 z] at h
      exact br_f z (nm_r (nI_1 i) h)
theorem yt_total {post : Int32 → Prop} (v g : Nat → Int32) (hp : post (pl_v v g 16)) : wpY_total post (v, g) :=
  ⟨17, yt_loop v g hp 16 0 rfl⟩
