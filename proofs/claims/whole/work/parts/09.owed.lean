theorem i_vc_put {k : Nat} {u : SX} {v : SY} (I : i_Rel k u v) (hk : k + 5 ≤ 2560) (v1 : Int32) (v2 : Int32) (v3 : Int32) (v4 : Int32) : wpX_put (fun r u' => wpY_put (fun r' v' => r' = r ∧ i_Rel (k + 5) u' v') v v1 v2 v3 v4) u v1 v2 v3 v4 := by
  obtain ⟨c, D, P, H, B, L, hd, fg, rd, ch, rfl, rfl, q, qc⟩ := I
  obtain ⟨r, u', v', R, hX, hY⟩ := dt_put (k := k + 5) (D := D) (H := H) (B := B) q qc v1 v2 v3 v4
  exact hX _ (hY _ ⟨rfl, R⟩)
theorem i_vc_delete {k : Nat} {u : SX} {v : SY} (I : i_Rel k u v) (hk : k + 5 ≤ 2560) (v1 : Int32) (v2 : Int32) (v3 : Int32) : wpX_delete (fun r u' => wpY_delete (fun r' v' => r' = r ∧ i_Rel (k + 5) u' v') v v1 v2 v3) u v1 v2 v3 := by
  obtain ⟨c, D, P, H, B, L, hd, fg, rd, ch, rfl, rfl, q, qc⟩ := I
  obtain ⟨r, u', v', R, hX, hY⟩ := dt_del (k := k + 5) (D := D) (H := H) (B := B) q qc v1 v2 v3
  exact hX _ (hY _ ⟨rfl, R⟩)
theorem i_vc_branch {k : Nat} {u : SX} {v : SY} (I : i_Rel k u v) (hk : k + 5 ≤ 2560) (v1 : Int32) (v2 : Int32) (v3 : Int32) (v4 : Int32) : wpX_branch (fun r u' => wpY_branch (fun r' v' => r' = r ∧ i_Rel (k + 5) u' v') v v1 v2 v3 v4) u v1 v2 v3 v4 := by
  obtain ⟨c, D, P, H, B, L, hd, fg, rd, ch, rfl, rfl, q, qc⟩ := I
  obtain ⟨r, u', v', R, hX, hY⟩ := dt_brn (k := k + 5) (D := D) (H := H) (B := B) q qc v1 v2 v3 v4
  exact hX _ (hY _ ⟨rfl, R⟩)
theorem i_vc_pull {k : Nat} {u : SX} {v : SY} (I : i_Rel k u v) (hk : k + 5 ≤ 2560) (v1 : Int32) (v2 : Int32) : wpX_pull (fun r u' => wpY_pull (fun r' v' => r' = r ∧ i_Rel (k + 5) u' v') v v1 v2) u v1 v2 := by
  obtain ⟨c, D, P, H, B, L, hd, fg, rd, ch, rfl, rfl, q, qc⟩ := I
  obtain ⟨r, u', v', R, hX, hY⟩ := dt_pul (k := k + 5) (D := D) (H := H) (B := B) q qc v1 v2
  exact hX _ (hY _ ⟨rfl, R⟩)
theorem i_vc_compact {k : Nat} {u : SX} {v : SY} (I : i_Rel k u v) (hk : k + 5 ≤ 2560) (v1 : Int32) : wpX_compact (fun r u' => wpY_compact (fun r' v' => r' = r ∧ i_Rel (k + 5) u' v') v v1) u v1 := by
  obtain ⟨c, D, P, H, B, L, hd, fg, rd, ch, rfl, rfl, q, qc⟩ := I
  obtain ⟨r, u', v', R, hX, hY⟩ := dt_cmp (k := k + 5) (D := D) (H := H) (B := B) q qc v1
  exact hX _ (hY _ ⟨rfl, R⟩)
theorem i_vc_winner {k : Nat} {u : SX} {v : SY} (I : i_Rel k u v) (hk : k + 5 ≤ 2560) (v1 : Int32) (v2 : Int32) : wpX_winner (fun r => wpY_winner (fun r' => r' = r ∧ i_Rel (k + 5) u v) v v1 v2) u v1 v2 := by
  have R := i_up I
  obtain ⟨c, D, P, H, B, L, hd, fg, rd, ch, rfl, rfl, q, qc⟩ := I
  obtain ⟨r, hX, hY⟩ := dt_win (D := D) (H := H) (B := B) (ch := ch) q v1 v2
  exact hX _ (hY _ ⟨rfl, R⟩)
theorem i_vc_conflicts {k : Nat} {u : SX} {v : SY} (I : i_Rel k u v) (hk : k + 5 ≤ 2560) (v1 : Int32) (v2 : Int32) : wpX_conflicts (fun r => wpY_conflicts (fun r' => r' = r ∧ i_Rel (k + 5) u v) v v1 v2) u v1 v2 := by
  have R := i_up I
  obtain ⟨c, D, P, H, B, L, hd, fg, rd, ch, rfl, rfl, q, qc⟩ := I
  obtain ⟨r, hX, hY⟩ := dt_cfs (D := D) (H := H) (B := B) (ch := ch) q v1 v2
  exact hX _ (hY _ ⟨rfl, R⟩)
theorem i_vc_conflict {k : Nat} {u : SX} {v : SY} (I : i_Rel k u v) (hk : k + 5 ≤ 2560) (v1 : Int32) (v2 : Int32) (v3 : Int32) : wpX_conflict (fun r => wpY_conflict (fun r' => r' = r ∧ i_Rel (k + 5) u v) v v1 v2 v3) u v1 v2 v3 := by
  have R := i_up I
  obtain ⟨c, D, P, H, B, L, hd, fg, rd, ch, rfl, rfl, q, qc⟩ := I
  obtain ⟨r, hX, hY⟩ := dt_cfl (D := D) (H := H) (B := B) (ch := ch) q v1 v2 v3
  exact hX _ (hY _ ⟨rfl, R⟩)
theorem i_vc_leaves {k : Nat} {u : SX} {v : SY} (I : i_Rel k u v) (hk : k + 5 ≤ 2560) (v1 : Int32) (v2 : Int32) : wpX_leaves (fun r => wpY_leaves (fun r' => r' = r ∧ i_Rel (k + 5) u v) v v1 v2) u v1 v2 := by
  have R := i_up I
  obtain ⟨c, D, P, H, B, L, hd, fg, rd, ch, rfl, rfl, q, qc⟩ := I
  obtain ⟨r, hX, hY⟩ := dt_lvs (D := D) (H := H) (B := B) (ch := ch) q v1 v2
  exact hX _ (hY _ ⟨rfl, R⟩)
theorem i_vc_readable {k : Nat} {u : SX} {v : SY} (I : i_Rel k u v) (hk : k + 5 ≤ 2560) (v1 : Int32) (v2 : Int32) : wpX_readable (fun r => wpY_readable (fun r' => r' = r ∧ i_Rel (k + 5) u v) v v1 v2) u v1 v2 := by
  have R := i_up I
  obtain ⟨c, D, P, H, B, L, hd, fg, rd, ch, rfl, rfl, q, qc⟩ := I
  obtain ⟨r, hX, hY⟩ := dt_rdb (D := D) (H := H) (B := B) (ch := ch) q v1 v2
  exact hX _ (hY _ ⟨rfl, R⟩)
theorem i_vc_body {k : Nat} {u : SX} {v : SY} (I : i_Rel k u v) (hk : k + 5 ≤ 2560) (v1 : Int32) (v2 : Int32) : wpX_body (fun r => wpY_body (fun r' => r' = r ∧ i_Rel (k + 5) u v) v v1 v2) u v1 v2 := by
  have R := i_up I
  obtain ⟨c, D, P, H, B, L, hd, fg, rd, ch, rfl, rfl, q, qc⟩ := I
  obtain ⟨r, hX, hY⟩ := dt_bdy (D := D) (H := H) (B := B) (ch := ch) q v1 v2
  exact hX _ (hY _ ⟨rfl, R⟩)
theorem i_vc_depth {k : Nat} {u : SX} {v : SY} (I : i_Rel k u v) (hk : k + 5 ≤ 2560) (v1 : Int32) : wpX_depth (fun r => wpY_depth (fun r' => r' = r ∧ i_Rel (k + 5) u v) v v1) u v1 := by
  have R := i_up I
  obtain ⟨c, D, P, H, B, L, hd, fg, rd, ch, rfl, rfl, q, qc⟩ := I
  obtain ⟨r, hX, hY⟩ := dt_dep (D := D) (H := H) (B := B) (ch := ch) q v1
  exact hX _ (hY _ ⟨rfl, R⟩)
theorem i_vc_common {k : Nat} {u : SX} {v : SY} (I : i_Rel k u v) (hk : k + 5 ≤ 2560) (v1 : Int32) (v2 : Int32) : wpX_common (fun r => wpY_common (fun r' => r' = r ∧ i_Rel (k + 5) u v) v v1 v2) u v1 v2 := by
  have R := i_up I
  obtain ⟨c, D, P, H, B, L, hd, fg, rd, ch, rfl, rfl, q, qc⟩ := I
  exact dt_com R q v1 v2
theorem i_vc_changes {k : Nat} {u : SX} {v : SY} (I : i_Rel k u v) (hk : k + 5 ≤ 2560) (v1 : Int32) : wpX_changes (fun r => wpY_changes (fun r' => r' = r ∧ i_Rel (k + 5) u v) v v1) u v1 := by
  have R := i_up I
  obtain ⟨c, D, P, H, B, L, hd, fg, rd, ch, rfl, rfl, q, qc⟩ := I
  obtain ⟨r, hX, hY⟩ := dt_chg (D := D) (H := H) (B := B) q qc v1
  exact hX _ (hY _ ⟨rfl, R⟩)
