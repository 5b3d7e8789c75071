/-! the owed statements -/
/-- both keep the same two arrays -/
def i_Rel (_ : Nat) (u : SX) (v : SY) : Prop := u = v
theorem i_up {k : Nat} {u : SX} {v : SY} (h : i_Rel k u v) : i_Rel (k + 4) u v := h
theorem i_vc0 : wpX_init (fun u => wpY_init (fun v => i_Rel 0 u v)) := rfl
theorem i_vc_write {k : Nat} {u : SX} {v : SY} (I : i_Rel k u v) (hk : k + 4 ≤ 2048) (v1 : Int32) (v2 : Int32) (v3 : Int32) : wpX_write (fun r u' => wpY_write (fun r' v' => r' = r ∧ i_Rel (k + 4) u' v') v v1 v2 v3) u v1 v2 v3 := by
  obtain ⟨vals, g⟩ := u
  cases I
  rcases pm_in v1 (n := 4) (by decide) with h | ⟨r, hr, rfl⟩
  · exact xr_write_o1 h (yr_write_o1 h ⟨rfl, rfl⟩)
  · rcases pm_in v2 (n := 4) (by decide) with h | ⟨c, hc, rfl⟩
    · exact xr_write_o2 hr h (yr_write_o2 hr h ⟨rfl, rfl⟩)
    · exact xr_write vals g v3 hr hc (fun z => yr_write vals g v3 hr hc (fun _ => ⟨rfl, rfl⟩) (fun z' => absurd z z')) (fun z => yr_write vals g v3 hr hc (fun z' => absurd z' z) (fun _ => ⟨rfl, rfl⟩))
theorem i_vc_read {k : Nat} {u : SX} {v : SY} (I : i_Rel k u v) (hk : k + 4 ≤ 2048) (v1 : Int32) (v2 : Int32) : wpX_read (fun r => wpY_read (fun r' => r' = r ∧ i_Rel (k + 4) u v) v v1 v2) u v1 v2 := by
  obtain ⟨vals, g⟩ := u
  cases I
  rcases pm_in v1 (n := 4) (by decide) with h | ⟨r, hr, rfl⟩
  · exact xr_read_o1 h (yr_read_o1 h ⟨rfl, rfl⟩)
  · rcases pm_in v2 (n := 4) (by decide) with h | ⟨c, hc, rfl⟩
    · exact xr_read_o2 hr h (yr_read_o2 hr h ⟨rfl, rfl⟩)
    · exact xr_read vals g hr hc (fun z => yr_read vals g hr hc (fun _ => ⟨rfl, rfl⟩) (fun z' => absurd z z')) (fun z => yr_read vals g hr hc (fun z' => absurd z' z) (fun _ => ⟨rfl, rfl⟩))
theorem i_vc_lose {k : Nat} {u : SX} {v : SY} (I : i_Rel k u v) (hk : k + 4 ≤ 2048) (v1 : Int32) (v2 : Int32) : wpX_lose (fun r u' => wpY_lose (fun r' v' => r' = r ∧ i_Rel (k + 4) u' v') v v1 v2) u v1 v2 := by
  obtain ⟨vals, g⟩ := u
  cases I
  rcases pm_in v1 (n := 6) (by decide) with h | ⟨r, hr, rfl⟩
  · exact xr_lose_o1 h (yr_lose_o1 h ⟨rfl, rfl⟩)
  · rcases pm_in v2 (n := 6) (by decide) with h | ⟨c, hc, rfl⟩
    · exact xr_lose_o2 hr h (yr_lose_o2 hr h ⟨rfl, rfl⟩)
    · exact xr_lose vals g hr hc (fun z => yr_lose vals g (r * 6 + c) rfl hr hc (fun _ => ⟨rfl, rfl⟩) (fun z' => absurd z z')) (fun z => yr_lose vals g (r * 6 + c) rfl hr hc (fun z' => absurd z' z) (fun _ => ⟨rfl, rfl⟩))
theorem i_vc_loseRow {k : Nat} {u : SX} {v : SY} (I : i_Rel k u v) (hk : k + 4 ≤ 2048) (v1 : Int32) : wpX_loseRow (fun r u' => wpY_loseRow (fun r' v' => r' = r ∧ i_Rel (k + 4) u' v') v v1) u v1 := by
  obtain ⟨vals, g⟩ := u
  cases I
  rcases pm_in v1 (n := 6) (by decide) with h | ⟨r, hr, rfl⟩
  · exact xr_loseRow_o h (yr_loseRow_o h ⟨rfl, rfl⟩)
  · exact xr_loseRow vals g hr (yr_loseRow vals g hr ⟨rfl, rfl⟩)
theorem i_vc_loseColumn {k : Nat} {u : SX} {v : SY} (I : i_Rel k u v) (hk : k + 4 ≤ 2048) (v1 : Int32) : wpX_loseColumn (fun r u' => wpY_loseColumn (fun r' v' => r' = r ∧ i_Rel (k + 4) u' v') v v1) u v1 := by
  obtain ⟨vals, g⟩ := u
  cases I
  rcases pm_in v1 (n := 6) (by decide) with h | ⟨r, hr, rfl⟩
  · exact xr_loseCol_o h (yr_loseCol_o h ⟨rfl, rfl⟩)
  · exact xr_loseCol vals g hr (yr_loseCol vals g hr ⟨rfl, rfl⟩)
theorem i_vc_mendRow {k : Nat} {u : SX} {v : SY} (I : i_Rel k u v) (hk : k + 4 ≤ 2048) (v1 : Int32) : wpX_mendRow (fun r u' => wpY_mendRow (fun r' v' => r' = r ∧ i_Rel (k + 4) u' v') v v1) u v1 := by
  obtain ⟨vals, g⟩ := u
  cases I
  rcases pm_in v1 (n := 6) (by decide) with h | ⟨r, hr, rfl⟩
  · exact xr_mendRow_o h (yr_mendRow_o h ⟨rfl, rfl⟩)
  · exact xr_mendRow vals g hr (yr_mendRow vals g hr ⟨rfl, rfl⟩)
theorem i_vc_mendColumn {k : Nat} {u : SX} {v : SY} (I : i_Rel k u v) (hk : k + 4 ≤ 2048) (v1 : Int32) : wpX_mendColumn (fun r u' => wpY_mendColumn (fun r' v' => r' = r ∧ i_Rel (k + 4) u' v') v v1) u v1 := by
  obtain ⟨vals, g⟩ := u
  cases I
  rcases pm_in v1 (n := 6) (by decide) with h | ⟨r, hr, rfl⟩
  · exact xr_mendCol_o h (yr_mendCol_o h ⟨rfl, rfl⟩)
  · exact xr_mendCol vals g hr (yr_mendCol vals g hr ⟨rfl, rfl⟩)
theorem i_vc_mend {k : Nat} {u : SX} {v : SY} (I : i_Rel k u v) (hk : k + 4 ≤ 2048) : wpX_mend (fun r u' => wpY_mend (fun r' v' => r' = r ∧ i_Rel (k + 4) u' v') v) u := by
  obtain ⟨vals, g⟩ := u
  cases I
  exact xq_mend vals g (yq_mend vals g ⟨rfl, rfl⟩)
theorem i_vc_lost {k : Nat} {u : SX} {v : SY} (I : i_Rel k u v) (hk : k + 4 ≤ 2048) (v1 : Int32) (v2 : Int32) : wpX_lost (fun r => wpY_lost (fun r' => r' = r ∧ i_Rel (k + 4) u v) v v1 v2) u v1 v2 := by
  obtain ⟨vals, g⟩ := u
  cases I
  rcases pm_in v1 (n := 6) (by decide) with h | ⟨r, hr, rfl⟩
  · exact xr_lost_o1 h (yr_lost_o1 h ⟨rfl, rfl⟩)
  · rcases pm_in v2 (n := 6) (by decide) with h | ⟨c, hc, rfl⟩
    · exact xr_lost_o2 hr h (yr_lost_o2 hr h ⟨rfl, rfl⟩)
    · exact xr_lost vals g hr hc (fun z => yr_lost vals g hr hc (fun _ => ⟨rfl, rfl⟩) (fun z' => absurd z z')) (fun z => yr_lost vals g hr hc (fun z' => absurd z' z) (fun _ => ⟨rfl, rfl⟩))
theorem i_vc_losses {k : Nat} {u : SX} {v : SY} (I : i_Rel k u v) (hk : k + 4 ≤ 2048) : wpX_losses (fun r => wpY_losses (fun r' => r' = r ∧ i_Rel (k + 4) u v) v) u := by
  obtain ⟨vals, g⟩ := u
  cases I
  exact xo_losses vals g (yo_losses vals g ⟨rfl, rfl⟩)
theorem i_vc_total {k : Nat} {u : SX} {v : SY} (I : i_Rel k u v) (hk : k + 4 ≤ 2048) : wpX_total (fun r => wpY_total (fun r' => r' = r ∧ i_Rel (k + 4) u v) v) u := by
  obtain ⟨vals, g⟩ := u
  cases I
  exact xt_total vals g (yt_total vals g ⟨rfl, rfl⟩)
