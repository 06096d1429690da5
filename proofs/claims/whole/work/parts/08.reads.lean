section
variable {c k : Nat} {D P H B L hd fg rd ch : Nat → Int32}
theorem dt_win (q : dt_Q c P L hd fg rd) (v1 v2 : Int32) : ∃ r, (∀ post : Int32 → Prop, post r → wpX_winner post (nI c, D, P, H, B, L, hd, fg) v1 v2) ∧ (∀ post : Int32 → Prop, post r → wpY_winner post (nI c, D, P, H, B, L, hd, rd, ch) v1 v2) := by
  have hc := q.1
  have hL := q.2.2.1
  rcases dt_refc v1 v2 with ⟨e, e0, e1, r⟩ | ⟨s, hs, rfl, r⟩
  · refine ⟨e, fun post h => ?_, fun post h => ?_⟩
    · unfold wpX_winner
      exact r.1 _ (br_f e0 h)
    · unfold wpY_winner
      exact r.2 _ _ (br_f e1 (r.2 _ _ h))
  · obtain ⟨z, hz⟩ := dt_bix (H := H) (B := B) hL (dt_lf c D P hd s v2) c
    have hz := dt_fin hL hz
    rcases id hz with ⟨rfl, -⟩ | ⟨b, hb, rfl, -, -⟩
    · refine ⟨-5, fun post h => ?_, fun post h => ?_⟩
      · unfold wpX_winner
        refine r.1 _ (br_t rfl (dt_xbl hc hs hL (fun y hy => ?_)))
        rw [dt_bsu hL hz hy]
        exact br_t rfl h
      · unfold wpY_winner
        exact r.2 _ _ (br_t dt_l0 (dt_ybs hc hs hL hz (br_f (by decide) h)))
    · refine ⟨nI b, fun post h => ?_, fun post h => ?_⟩
      · unfold wpX_winner
        refine r.1 _ (br_t rfl (dt_xbl hc hs hL (fun y hy => ?_)))
        rw [dt_bsu hL hz hy]
        exact br_f (dt_nm (by omega)) h
      · unfold wpY_winner
        exact r.2 _ _ (br_t dt_l0 (dt_ybs hc hs hL hz (br_t (nI_pos' (by omega)) h)))
theorem dt_cfs (q : dt_Q c P L hd fg rd) (v1 v2 : Int32) : ∃ r, (∀ post : Int32 → Prop, post r → wpX_conflicts post (nI c, D, P, H, B, L, hd, fg) v1 v2) ∧ (∀ post : Int32 → Prop, post r → wpY_conflicts post (nI c, D, P, H, B, L, hd, rd, ch) v1 v2) := by
  have hc := q.1
  rcases dt_refc v1 v2 with ⟨e, e0, e1, r⟩ | ⟨s, hs, rfl, r⟩
  · refine ⟨e, fun post h => ?_, fun post h => ?_⟩
    · unfold wpX_conflicts
      exact r.1 _ (br_f e0 h)
    · unfold wpY_conflicts
      exact r.2 _ _ (br_f e1 (r.2 _ _ h))
  · by_cases z : dt_cn (fun q => dt_lf c D P hd s v2 q ∧ L q = 0) c = 0
    · refine ⟨0, fun post h => ?_, fun post h => ?_⟩
      · unfold wpX_conflicts
        exact r.1 _ (br_t rfl ⟨c + 1, dt_xcf hc hs (fun _ => h) (fun y => absurd z y) c 0 0 (by omega) rfl⟩)
      · unfold wpY_conflicts
        exact r.2 _ _ (br_t dt_l0 ⟨c + 1, dt_ycf hc hs (fun _ => h) (fun y => absurd z y) c 0 0 (by omega) rfl⟩)
    · refine ⟨nI (dt_cn (fun q => dt_lf c D P hd s v2 q ∧ L q = 0) c) - 1, fun post h => ?_, fun post h => ?_⟩
      · unfold wpX_conflicts
        exact r.1 _ (br_t rfl ⟨c + 1, dt_xcf hc hs (fun y => absurd y z) (fun _ => h) c 0 0 (by omega) rfl⟩)
      · unfold wpY_conflicts
        exact r.2 _ _ (br_t dt_l0 ⟨c + 1, dt_ycf hc hs (fun y => absurd y z) (fun _ => h) c 0 0 (by omega) rfl⟩)
theorem dt_cfl (q : dt_Q c P L hd fg rd) (v1 v2 v3 : Int32) : ∃ r, (∀ post : Int32 → Prop, post r → wpX_conflict post (nI c, D, P, H, B, L, hd, fg) v1 v2 v3) ∧ (∀ post : Int32 → Prop, post r → wpY_conflict post (nI c, D, P, H, B, L, hd, rd, ch) v1 v2 v3) := by
  have hc := q.1
  have hL := q.2.2.1
  rcases dt_refc v1 v2 with ⟨e, e0, e1, r⟩ | ⟨s, hs, rfl, r⟩
  · refine ⟨e, fun post h => ?_, fun post h => ?_⟩
    · unfold wpX_conflict
      exact r.1 _ (br_f e0 h)
    · unfold wpY_conflict
      exact r.2 _ _ (br_f e1 (r.2 _ _ h))
  · by_cases v : v3 < 0
    · refine ⟨-5, fun post h => ?_, fun post h => ?_⟩
      · unfold wpX_conflict
        exact r.1 _ (br_t rfl (br_f (Int32.not_le.mpr v) h))
      · unfold wpY_conflict
        exact r.2 _ _ (br_t dt_l0 ⟨c + 1, dt_cfn hc hs hL v h c 0 (by omega)⟩)
    · obtain ⟨z, hX, hY⟩ := dt_cf0 (D := D) (P := P) (H := H) (B := B) (hd := hd) (fg := fg) (rd := rd) (ch := ch) (d := v2) hc hs hL v c 0 (by omega)
      refine ⟨z, fun post h => ?_, fun post h => ?_⟩
      · unfold wpX_conflict
        exact r.1 _ (br_t rfl (br_t (Int32.not_lt.mp v) ⟨c + 1, hX post h⟩))
      · unfold wpY_conflict
        exact r.2 _ _ (br_t dt_l0 ⟨c + 1, hY post h⟩)
theorem dt_lvs (q : dt_Q c P L hd fg rd) (v1 v2 : Int32) : ∃ r, (∀ post : Int32 → Prop, post r → wpX_leaves post (nI c, D, P, H, B, L, hd, fg) v1 v2) ∧ (∀ post : Int32 → Prop, post r → wpY_leaves post (nI c, D, P, H, B, L, hd, rd, ch) v1 v2) := by
  have hc := q.1
  rcases dt_refc v1 v2 with ⟨e, e0, e1, r⟩ | ⟨s, hs, rfl, r⟩
  · refine ⟨e, fun post h => ?_, fun post h => ?_⟩
    · unfold wpX_leaves
      exact r.1 _ (br_f e0 h)
    · unfold wpY_leaves
      exact r.2 _ _ (br_f e1 (r.2 _ _ h))
  · refine ⟨nI (dt_cn (dt_lf c D P hd s v2) c), fun post h => ?_, fun post h => ?_⟩
    · unfold wpX_leaves
      exact r.1 _ (br_t rfl ⟨c + 1, dt_xlv hc hs h c 0 0 (by omega) rfl⟩)
    · unfold wpY_leaves
      exact r.2 _ _ (br_t dt_l0 ⟨c + 1, dt_ylv hc hs h c 0 0 (by omega) rfl⟩)
theorem dt_yr0 {post : Int32 → Prop} {v1 v2 : Int32} (hb : dt_bad v1) (h : post 0) : wpY_readable post (nI c, D, P, H, B, L, hd, rd, ch) v1 v2 := by
  unfold wpY_readable
  exact dt_ys0 hb (br_f dt_one h)
theorem dt_yr1 {post : Int32 → Prop} {s : Nat} {v2 : Int32} (hs : s < 2) (o : dt_out c v2) (h : post 0) : wpY_readable post (nI c, D, P, H, B, L, hd, rd, ch) (nI s) v2 := by
  unfold wpY_readable
  exact dt_ys hs (br_t rfl (dt_ya0 o (br_t rfl h)))
theorem dt_yr {post : Int32 → Prop} {s j : Nat} (q : dt_Q c P L hd fg rd) (hs : s < 2) (hj : j < c) (hT : ¬ rd (s * 40 + j) = 0 → post 1) (hF : rd (s * 40 + j) = 0 → post 0) : wpY_readable post (nI c, D, P, H, B, L, hd, rd, ch) (nI s) (nI j) := by
  have hc := q.1
  have z0 : hd (s * 40 + j) = 0 → rd (s * 40 + j) = 0 := by
    intro z
    rcases q.2.2.2.1 (s * 40 + j) with y | y
    · exact y.2.1
    · exact absurd (y.1.symm.trans z) dt_one
  unfold wpY_readable
  exact dt_ys hs (br_t rfl (dt_ya hc hs hj (fun _ => br_f dt_one ⟨pk_in (s * 40 + j) 80 (by omega) (dt_pl s j), dt_aq (s * 40 + j) (by omega) (dt_pl s j) hF hT⟩) (fun z => br_t rfl (hF (z0 z)))))
theorem dt_xr {post : Int32 → Prop} {s j : Nat} (q : dt_Q c P L hd fg rd) (hs : s < 2) (hj : j < c) (hT : ¬ rd (s * 40 + j) = 0 → post 1) (hF : rd (s * 40 + j) = 0 → post 0) : wpX_canRead post (nI c, D, P, H, B, L, hd, fg) (nI s) (nI j) := by
  refine dt_xc q.1 hs hj (fun a b => hT (fun z => ?_)) (fun a => hF ?_)
  · rcases q.2.2.2.1 (s * 40 + j) with y | ⟨-, y | y⟩
    · exact a y.1
    · exact dt_one (y.1.symm.trans z)
    · exact dt_one (y.2.symm.trans b)
  · rcases q.2.2.2.1 (s * 40 + j) with y | ⟨w, y | y⟩
    · exact y.2.1
    · exact absurd ⟨by rw [w]; exact dt_one, y.2⟩ a
    · exact y.1
theorem dt_rdb (q : dt_Q c P L hd fg rd) (v1 v2 : Int32) : ∃ r, (∀ post : Int32 → Prop, post r → wpX_readable post (nI c, D, P, H, B, L, hd, fg) v1 v2) ∧ (∀ post : Int32 → Prop, post r → wpY_readable post (nI c, D, P, H, B, L, hd, rd, ch) v1 v2) := by
  have hc := q.1
  rcases dt_site v1 with b | ⟨s, hs, rfl⟩
  · refine ⟨0, fun post h => ?_, fun post h => dt_yr0 b h⟩
    unfold wpX_readable
    exact dt_xs0 b (br_t rfl h)
  · rcases dt_ix v2 hc with o | ⟨j, hj, rfl⟩
    · refine ⟨0, fun post h => ?_, fun post h => dt_yr1 hs o h⟩
      unfold wpX_readable
      exact dt_xs hs (br_f dt_one (dt_xc0 o (br_t rfl h)))
    · by_cases z : rd (s * 40 + j) = 0
      · refine ⟨0, fun post h => ?_, fun post h => dt_yr q hs hj (fun y => absurd z y) (fun _ => h)⟩
        unfold wpX_readable
        exact dt_xs hs (br_f dt_one (dt_xr q hs hj (fun y => absurd z y) (fun _ => br_t rfl h)))
      · refine ⟨1, fun post h => ?_, fun post h => dt_yr q hs hj (fun _ => h) (fun y => absurd y z)⟩
        unfold wpX_readable
        exact dt_xs hs (br_f dt_one (dt_xr q hs hj (fun _ => br_f dt_one h) (fun y => absurd y z)))
theorem dt_bdy (q : dt_Q c P L hd fg rd) (v1 v2 : Int32) : ∃ r, (∀ post : Int32 → Prop, post r → wpX_body post (nI c, D, P, H, B, L, hd, fg) v1 v2) ∧ (∀ post : Int32 → Prop, post r → wpY_body post (nI c, D, P, H, B, L, hd, rd, ch) v1 v2) := by
  have hc := q.1
  rcases dt_site v1 with b | ⟨s, hs, rfl⟩
  · refine ⟨0, fun post h => ?_, fun post h => ?_⟩
    · unfold wpX_body
      exact dt_xs0 b (br_t rfl h)
    · unfold wpY_body
      exact dt_yr0 b (br_t rfl h)
  · rcases dt_ix v2 hc with o | ⟨j, hj, rfl⟩
    · refine ⟨0, fun post h => ?_, fun post h => ?_⟩
      · unfold wpX_body
        exact dt_xs hs (br_f dt_one (dt_xc0 o (br_t rfl h)))
      · unfold wpY_body
        exact dt_yr1 hs o (br_t rfl h)
    · have ij : vp_in (nI j) 40 := vp_in_nI (by omega) (by omega)
      by_cases z : rd (s * 40 + j) = 0
      · refine ⟨0, fun post h => ?_, fun post h => ?_⟩
        · unfold wpX_body
          exact dt_xs hs (br_f dt_one (dt_xr q hs hj (fun y => absurd z y) (fun _ => br_t rfl h)))
        · unfold wpY_body
          exact dt_yr q hs hj (fun y => absurd z y) (fun _ => br_t rfl h)
      · refine ⟨B j, fun post h => ?_, fun post h => ?_⟩
        · unfold wpX_body
          exact dt_xs hs (br_f dt_one (dt_xr q hs hj (fun _ => br_f dt_one ⟨ij, dt_ap j (by omega) rfl h⟩) (fun y => absurd y z)))
        · unfold wpY_body
          exact dt_yr q hs hj (fun _ => br_f dt_one ⟨ij, dt_ap j (by omega) rfl h⟩) (fun y => absurd y z)
theorem dt_dep (q : dt_Q c P L hd fg rd) (v1 : Int32) : ∃ r, (∀ post : Int32 → Prop, post r → wpX_depth post (nI c, D, P, H, B, L, hd, fg) v1) ∧ (∀ post : Int32 → Prop, post r → wpY_depth post (nI c, D, P, H, B, L, hd, rd, ch) v1) := by
  have hc := q.1
  rcases dt_ix v1 hc with o | ⟨j, hj, rfl⟩
  · refine ⟨-5, fun post h => ?_, fun post h => ?_⟩
    · unfold wpX_depth
      exact dt_xe0 o (br_t rfl h)
    · unfold wpY_depth
      exact dt_yn0 o (br_f dt_one h)
  · have ij : vp_in (nI j) 40 := vp_in_nI (by omega) (by omega)
    refine ⟨H j, fun post h => ?_, fun post h => ?_⟩
    · unfold wpX_depth
      exact dt_xe1 hc hj (br_f dt_one ⟨ij, dt_ap j (by omega) rfl h⟩)
    · unfold wpY_depth
      exact dt_yn hc hj (br_t rfl ⟨ij, dt_ap j (by omega) rfl h⟩)
theorem dt_chg (q : dt_Q c P L hd fg rd) (qc : dt_C c hd ch) (v1 : Int32) : ∃ r, (∀ post : Int32 → Prop, post r → wpX_changes post (nI c, D, P, H, B, L, hd, fg) v1) ∧ (∀ post : Int32 → Prop, post r → wpY_changes post (nI c, D, P, H, B, L, hd, rd, ch) v1) := by
  have hc := q.1
  rcases dt_site v1 with b | ⟨s, hs, rfl⟩
  · refine ⟨-1, fun post h => ?_, fun post h => ?_⟩
    · unfold wpX_changes
      exact dt_xs0 b (br_t rfl h)
    · unfold wpY_changes
      exact dt_ys0 b (br_f dt_one h)
  · refine ⟨nI (dt_cn (fun r => ¬ hd (s * 40 + r) = 0) c), fun post h => ?_, fun post h => ?_⟩
    · unfold wpX_changes
      exact dt_xs hs (br_f dt_one ⟨c + 1, dt_xch hc hs h c 0 0 (by omega) rfl⟩)
    · unfold wpY_changes
      refine dt_ys hs (br_t rfl ⟨vp_in_nI hs (by omega), dt_ap s (by omega) rfl ?_⟩)
      rw [qc s hs]
      exact h
theorem dt_com {R : Prop} (hR : R) (q : dt_Q c P L hd fg rd) (v1 v2 : Int32) : wpX_common (fun r => wpY_common (fun r' => r' = r ∧ R) (nI c, D, P, H, B, L, hd, rd, ch) v1 v2) (nI c, D, P, H, B, L, hd, fg) v1 v2 := by
  have hc := q.1
  have hP := q.2.1
  unfold wpX_common
  rcases dt_ix v1 hc with o | ⟨a, ha, rfl⟩
  · refine dt_xe0 o (br_t rfl ?_)
    unfold wpY_common
    exact dt_yn0 o (br_f dt_one ⟨rfl, hR⟩)
  · rcases dt_ix v2 hc with o | ⟨b, hb, rfl⟩
    · refine dt_xe1 hc ha (br_f dt_one (dt_xe0 o (br_t rfl ?_)))
      unfold wpY_common
      exact dt_yn hc ha (br_t rfl (dt_yn0 o (br_f dt_one ⟨rfl, hR⟩)))
    · refine dt_xe1 hc ha (br_f dt_one (dt_xe1 hc hb (br_f dt_one ⟨81, ?_⟩)))
      rw [← show dt_en (a + 1) = nI a from nI_pred a, ← show dt_en (b + 1) = nI b from nI_pred b]
      refine dt_xcm0 (a := a + 1) (b := b + 1) hc hP (fun m hm hx => ?_) 80 0 (a + 1) (b + 1) (by omega) (by omega) (by omega) (by omega) (fun x => Iff.rfl)
      rw [show dt_en (a + 1) = nI a from nI_pred a, show dt_en (b + 1) = nI b from nI_pred b]
      unfold wpY_common
      exact dt_yn hc ha (br_t rfl (dt_yn hc hb (br_t rfl ⟨c + 1, dt_ycm0 (post := fun r' => r' = dt_an m ∧ R) hc ha hb hm hP hx ⟨rfl, hR⟩ c 0 (-5) (by omega) (fun z => by rw [show m = 0 by omega]; rfl)⟩)))
end
