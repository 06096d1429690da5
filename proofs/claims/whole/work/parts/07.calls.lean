section
variable {c k : Nat} {D P H B L hd fg rd ch : Nat → Int32}
theorem dt_bix {H B L : Nat → Int32} (hL : ∀ r, L r = 0 ∨ L r = 1) (lf : Nat → Prop) : ∀ i, ∃ z, dt_bi lf (dt_bt H B L) i z := by
  intro i
  induction i with
  | zero => exact ⟨-1, Or.inl ⟨rfl, fun j hj => absurd hj (Nat.not_lt_zero j)⟩⟩
  | succ i ih =>
    obtain ⟨z, h⟩ := ih
    by_cases l : lf i
    · rcases h with ⟨-, m⟩ | ⟨b, hb, -, lb, m⟩
      · exact ⟨_, dt_bi_n m l⟩
      · by_cases t : dt_bt H B L i b
        · exact ⟨_, dt_bi_t hL l m t⟩
        · exact ⟨_, dt_bi_o hL hb lb m t⟩
    · exact ⟨z, dt_bi_f h l⟩
theorem dt_bsu {H B L : Nat → Int32} (hL : ∀ r, L r = 0 ∨ L r = 1) {lf : Nat → Prop} {c : Nat} {z y : Int32} (h : dt_bs lf (dt_bt H B L) c z) (g : dt_bs lf (dt_bt H B L) c y) : y = z := by
  rcases h with ⟨e, n⟩ | ⟨b, hb, e, l, m⟩
  · rcases g with ⟨f, -⟩ | ⟨a, ha, f, o, -⟩
    · rw [e, f]
    · exact absurd o (n a ha)
  · rcases g with ⟨f, n⟩ | ⟨a, ha, f, o, w⟩
    · exact absurd l (n b hb)
    · by_cases q : a = b
      · rw [e, f, q]
      · rcases dt_tot (H := H) (B := B) hL q with t | t
        · exact absurd t (m a ha o)
        · exact absurd t (w b hb l)
theorem dt_wrel {s : Nat} {d par body del dep : Int32} (hc : c < 40) (hs : s < 2) (h01 : del = 0 ∨ del = 1) (hp : par = -1 ∨ ∃ q, q < c ∧ par = nI q) (q : dt_Q c P L hd fg rd) (qc : dt_C c hd ch) : i_Rel k (nI (c + 1), upd D c d, upd P c par, upd H c dep, upd B c body, upd L c del, upd hd (s * 40 + c) 1, fg) (nI (c + 1), upd D c d, upd P c par, upd H c dep, upd B c body, upd L c del, upd hd (s * 40 + c) 1, upd rd (s * 40 + c) 1, upd ch s (ch s + 1)) :=
  ⟨c + 1, _, _, _, _, _, _, _, _, _, rfl, rfl, dt_Qw hc hs h01 hp q, dt_Cw hc hs (fun t ht => q.2.2.2.2 t c ht (Nat.le_refl c) hc) qc⟩
theorem dt_rel (q : dt_Q c P L hd fg rd) (qc : dt_C c hd ch) : i_Rel k (nI c, D, P, H, B, L, hd, fg) (nI c, D, P, H, B, L, hd, rd, ch) := ⟨c, _, _, _, _, _, _, _, _, _, rfl, rfl, q, qc⟩
theorem dt_l0 : (0 : Int32) ≤ 0 := by decide
theorem dt_n3 : ¬ (-3 : Int32) = 0 := by decide
theorem dt_xre {post : Int32 → Prop} {e v1 v2 : Int32} (e0 : ¬ e = 0) (r : dt_ref e v1 v2) (h : post e) : wpX_refusalToWrite post (nI c, D, P, H, B, L, hd, fg) v1 v2 := by
  unfold wpX_refusalToWrite
  dsimp only
  exact r.1 _ (br_f e0 h)
theorem dt_xrf {post : Int32 → Prop} {v1 v2 : Int32} (r : dt_ref 0 v1 v2) (hc : c = 40) (h : post (-3)) : wpX_refusalToWrite post (nI c, D, P, H, B, L, hd, fg) v1 v2 := by
  unfold wpX_refusalToWrite
  dsimp only
  exact r.1 _ (br_t rfl (br_f (nI_nlt (b := 40) (by omega) (by omega)) h))
theorem dt_xrw {post : Int32 → Prop} {v1 v2 : Int32} (r : dt_ref 0 v1 v2) (hc : c < 40) (h : post 0) : wpX_refusalToWrite post (nI c, D, P, H, B, L, hd, fg) v1 v2 := by
  unfold wpX_refusalToWrite
  dsimp only
  exact r.1 _ (br_t rfl (br_t (nI_lt (b := 40) (by omega) (by omega)) h))
theorem dt_c40 (hc : c < 40) : ¬ nI c = 40 := fun z => absurd ((nI_eq (a := c) (b := 40) (by omega) (by omega)).mp z) (by omega)
theorem dt_put (q : dt_Q c P L hd fg rd) (qc : dt_C c hd ch) (v1 v2 v3 v4 : Int32) : ∃ r u' v', i_Rel k u' v' ∧ (∀ post : Int32 → SX → Prop, post r u' → wpX_put post (nI c, D, P, H, B, L, hd, fg) v1 v2 v3 v4) ∧ (∀ post : Int32 → SY → Prop, post r v' → wpY_put post (nI c, D, P, H, B, L, hd, rd, ch) v1 v2 v3 v4) := by
  have hc := q.1
  have hL := q.2.2.1
  rcases dt_refc v1 v2 with ⟨e, e0, e1, r⟩ | ⟨s, hs, rfl, r⟩
  · refine ⟨e, _, _, dt_rel (D := D) (H := H) (B := B) q qc, fun post h => ?_, fun post h => ?_⟩
    · unfold wpX_put
      exact dt_xre e0 r (br_f e0 h)
    · unfold wpY_put
      exact r.2 _ _ (br_f e1 (r.2 _ _ h))
  · by_cases full : c = 40
    · refine ⟨-3, _, _, dt_rel (D := D) (H := H) (B := B) q qc, fun post h => ?_, fun post h => ?_⟩
      · unfold wpX_put
        exact dt_xrf r full (br_f dt_n3 h)
      · unfold wpY_put
        exact r.2 _ _ (br_t dt_l0 (br_t (by rw [full]; rfl) h))
    · have hc' : c < 40 := by omega
      have n40 := dt_c40 hc'
      by_cases w : v3 = -1
      · obtain ⟨z, hz⟩ := dt_bix (H := H) (B := B) hL (dt_lf c D P hd s v2) c
        have hz := dt_fin hL hz
        rcases id hz with ⟨rfl, -⟩ | ⟨b, hb, rfl, lb, -⟩
        · refine ⟨nI c, _, _, dt_wrel (s := s) (d := v2) (par := -1) (body := v4) (del := 0) (dep := 1) (D := D) (H := H) (B := B) hc' hs (Or.inl rfl) (Or.inl rfl) q qc, fun post h => ?_, fun post h => ?_⟩
          · unfold wpX_put
            refine dt_xrw r hc' (br_t rfl (br_t w (dt_xbl hc hs hL (fun y hy => ?_))))
            rw [dt_bsu hL hz hy]
            refine br_t rfl ?_
            unfold wX_put_64
            exact dt_xw hc' hs (Or.inl rfl) (Or.inl ⟨rfl, rfl⟩) h
          · unfold wpY_put
            refine r.2 _ _ (br_t dt_l0 (br_f n40 (br_t w (dt_ybs hc hs hL hz (br_t (by decide) ?_)))))
            unfold wY_put_59
            exact dt_yw hc' hs (Or.inl rfl) (Or.inl ⟨rfl, rfl⟩) h
        · have ib : vp_in (nI b) 40 := vp_in_nI (by omega) (by omega)
          by_cases l : L b = 0
          · refine ⟨-4, _, _, dt_rel (D := D) (H := H) (B := B) q qc, fun post h => ?_, fun post h => ?_⟩
            · unfold wpX_put
              refine dt_xrw r hc' (br_t rfl (br_t w (dt_xbl hc hs hL (fun y hy => ?_))))
              rw [dt_bsu hL hz hy]
              exact br_f (dt_nm (by omega)) ⟨ib, dt_aq b (by omega) rfl (fun _ => h) (fun z => absurd l z)⟩
            · unfold wpY_put
              exact r.2 _ _ (br_t dt_l0 (br_f n40 (br_t w (dt_ybs hc hs hL hz (br_f (nI_pos (by omega)) ⟨ib, dt_aq b (by omega) rfl (fun _ => h) (fun z => absurd l z)⟩)))))
          · refine ⟨nI c, _, _, dt_wrel (s := s) (d := v2) (par := nI b) (body := v4) (del := 0) (dep := H b + 1) (D := D) (H := H) (B := B) hc' hs (Or.inl rfl) (Or.inr ⟨b, hb, rfl⟩) q qc, fun post h => ?_, fun post h => ?_⟩
            · unfold wpX_put
              refine dt_xrw r hc' (br_t rfl (br_t w (dt_xbl hc hs hL (fun y hy => ?_))))
              rw [dt_bsu hL hz hy]
              refine br_f (dt_nm (by omega)) ⟨ib, dt_aq b (by omega) rfl (fun z => absurd z l) (fun _ => ?_)⟩
              unfold wX_put_64
              exact dt_xw hc' hs (Or.inl rfl) (Or.inr ⟨b, hb, rfl, rfl⟩) h
            · unfold wpY_put
              refine r.2 _ _ (br_t dt_l0 (br_f n40 (br_t w (dt_ybs hc hs hL hz (br_f (nI_pos (by omega)) ⟨ib, dt_aq b (by omega) rfl (fun z => absurd z l) (fun _ => ?_)⟩)))))
              unfold wY_put_59
              exact dt_yw hc' hs (Or.inl rfl) (Or.inr ⟨b, hb, rfl, rfl⟩) h
      · rcases dt_ix v3 hc with o | ⟨j, hj, rfl⟩
        · refine ⟨-4, _, _, dt_rel (D := D) (H := H) (B := B) q qc, fun post h => ?_, fun post h => ?_⟩
          · unfold wpX_put
            exact dt_xrw r hc' (br_t rfl (br_f w (dt_xl0 o (br_t rfl h))))
          · unfold wpY_put
            exact r.2 _ _ (br_t dt_l0 (br_f n40 (br_f w (o.elim (fun a => br_t a h) (fun a => br_f a.1 (br_t a.2 h))))))
        · by_cases l : dt_lf c D P hd s v2 j
          · refine ⟨nI c, _, _, dt_wrel (s := s) (d := v2) (par := nI j) (body := v4) (del := 0) (dep := H j + 1) (D := D) (H := H) (B := B) hc' hs (Or.inl rfl) (Or.inr ⟨j, hj, rfl⟩) q qc, fun post h => ?_, fun post h => ?_⟩
            · unfold wpX_put
              refine dt_xrw r hc' (br_t rfl (br_f w (dt_xl hc hs hj (fun _ => br_f dt_one ?_) (fun z => absurd l z))))
              unfold wX_put_64
              exact dt_xw hc' hs (Or.inl rfl) (Or.inr ⟨j, hj, rfl, rfl⟩) h
            · unfold wpY_put
              exact r.2 _ _ (br_t dt_l0 (br_f n40 (br_f w (br_f (nI_pos (by omega)) (br_f (nI_ge hj (by omega)) (dt_yf hc hs hj (fun _ => br_f dt_one ⟨vp_in_nI (by omega) (by omega), dt_aq j (by omega) rfl (fun _ => dt_yw hc' hs (Or.inl rfl) (Or.inr ⟨j, hj, rfl, rfl⟩) h) (fun z => absurd l.1 z)⟩) (fun z => absurd l.2 z)))))))
          · refine ⟨-4, _, _, dt_rel (D := D) (H := H) (B := B) q qc, fun post h => ?_, fun post h => ?_⟩
            · unfold wpX_put
              exact dt_xrw r hc' (br_t rfl (br_f w (dt_xl hc hs hj (fun z => absurd z l) (fun _ => br_t rfl h))))
            · unfold wpY_put
              exact r.2 _ _ (br_t dt_l0 (br_f n40 (br_f w (br_f (nI_pos (by omega)) (br_f (nI_ge hj (by omega)) (dt_yf hc hs hj (fun y => br_f dt_one ⟨vp_in_nI (by omega) (by omega), dt_aq j (by omega) rfl (fun z => absurd ⟨z, y⟩ l) (fun _ => h)⟩) (fun _ => br_t rfl h)))))))
theorem dt_del (q : dt_Q c P L hd fg rd) (qc : dt_C c hd ch) (v1 v2 v3 : Int32) : ∃ r u' v', i_Rel k u' v' ∧ (∀ post : Int32 → SX → Prop, post r u' → wpX_delete post (nI c, D, P, H, B, L, hd, fg) v1 v2 v3) ∧ (∀ post : Int32 → SY → Prop, post r v' → wpY_delete post (nI c, D, P, H, B, L, hd, rd, ch) v1 v2 v3) := by
  have hc := q.1
  rcases dt_refc v1 v2 with ⟨e, e0, e1, r⟩ | ⟨s, hs, rfl, r⟩
  · refine ⟨e, _, _, dt_rel (D := D) (H := H) (B := B) q qc, fun post h => ?_, fun post h => ?_⟩
    · unfold wpX_delete
      exact dt_xre e0 r (br_f e0 h)
    · unfold wpY_delete
      exact r.2 _ _ (br_f e1 (r.2 _ _ h))
  · by_cases full : c = 40
    · refine ⟨-3, _, _, dt_rel (D := D) (H := H) (B := B) q qc, fun post h => ?_, fun post h => ?_⟩
      · unfold wpX_delete
        exact dt_xrf r full (br_f dt_n3 h)
      · unfold wpY_delete
        exact r.2 _ _ (br_t dt_l0 (br_t (by rw [full]; rfl) h))
    · have hc' : c < 40 := by omega
      have n40 := dt_c40 hc'
      rcases dt_ix v3 hc with o | ⟨j, hj, rfl⟩
      · refine ⟨-4, _, _, dt_rel (D := D) (H := H) (B := B) q qc, fun post h => ?_, fun post h => ?_⟩
        · unfold wpX_delete
          exact dt_xrw r hc' (br_t rfl (dt_xp0 o (br_t rfl h)))
        · unfold wpY_delete
          exact r.2 _ _ (br_t dt_l0 (br_f n40 (o.elim (fun a => br_t a h) (fun a => br_f a.1 (br_t a.2 h)))))
      · have ij : vp_in (nI j) 40 := vp_in_nI (by omega) (by omega)
        by_cases l : dt_lf c D P hd s v2 j ∧ L j = 0
        · refine ⟨nI c, _, _, dt_wrel (s := s) (d := v2) (par := nI j) (body := 0) (del := 1) (dep := H j + 1) (D := D) (H := H) (B := B) hc' hs (Or.inr rfl) (Or.inr ⟨j, hj, rfl⟩) q qc, fun post h => ?_, fun post h => ?_⟩
          · unfold wpX_delete
            exact dt_xrw r hc' (br_t rfl (dt_xp hc hs hj (fun _ => br_f dt_one (dt_xw hc' hs (Or.inr rfl) (Or.inr ⟨j, hj, rfl, rfl⟩) h)) (fun z => absurd l z)))
          · unfold wpY_delete
            exact r.2 _ _ (br_t dt_l0 (br_f n40 (br_f (nI_pos (by omega)) (br_f (nI_ge hj (by omega)) (dt_yf hc hs hj (fun _ => br_f dt_one ⟨ij, dt_aq j (by omega) rfl (fun _ => ⟨ij, dt_aq j (by omega) rfl (fun _ => dt_yw hc' hs (Or.inr rfl) (Or.inr ⟨j, hj, rfl, rfl⟩) h) (fun z => absurd l.2 z)⟩) (fun z => absurd l.1.1 z)⟩) (fun z => absurd l.1.2 z))))))
        · refine ⟨-4, _, _, dt_rel (D := D) (H := H) (B := B) q qc, fun post h => ?_, fun post h => ?_⟩
          · unfold wpX_delete
            exact dt_xrw r hc' (br_t rfl (dt_xp hc hs hj (fun z => absurd z l) (fun _ => br_t rfl h)))
          · unfold wpY_delete
            exact r.2 _ _ (br_t dt_l0 (br_f n40 (br_f (nI_pos (by omega)) (br_f (nI_ge hj (by omega)) (dt_yf hc hs hj (fun y => br_f dt_one ⟨ij, dt_aq j (by omega) rfl (fun z => ⟨ij, dt_aq j (by omega) rfl (fun x => absurd ⟨⟨z, y⟩, x⟩ l) (fun _ => h)⟩) (fun _ => h)⟩) (fun _ => br_t rfl h))))))
theorem dt_brn (q : dt_Q c P L hd fg rd) (qc : dt_C c hd ch) (v1 v2 v3 v4 : Int32) : ∃ r u' v', i_Rel k u' v' ∧ (∀ post : Int32 → SX → Prop, post r u' → wpX_branch post (nI c, D, P, H, B, L, hd, fg) v1 v2 v3 v4) ∧ (∀ post : Int32 → SY → Prop, post r v' → wpY_branch post (nI c, D, P, H, B, L, hd, rd, ch) v1 v2 v3 v4) := by
  have hc := q.1
  rcases dt_refc v1 v2 with ⟨e, e0, e1, r⟩ | ⟨s, hs, rfl, r⟩
  · refine ⟨e, _, _, dt_rel (D := D) (H := H) (B := B) q qc, fun post h => ?_, fun post h => ?_⟩
    · unfold wpX_branch
      exact dt_xre e0 r (br_f e0 h)
    · unfold wpY_branch
      exact r.2 _ _ (br_f e1 (r.2 _ _ h))
  · by_cases full : c = 40
    · refine ⟨-3, _, _, dt_rel (D := D) (H := H) (B := B) q qc, fun post h => ?_, fun post h => ?_⟩
      · unfold wpX_branch
        exact dt_xrf r full (br_f dt_n3 h)
      · unfold wpY_branch
        exact r.2 _ _ (br_t dt_l0 (br_t (by rw [full]; rfl) h))
    · have hc' : c < 40 := by omega
      have n40 := dt_c40 hc'
      rcases dt_ix v3 hc with o | ⟨j, hj, rfl⟩
      · refine ⟨-5, _, _, dt_rel (D := D) (H := H) (B := B) q qc, fun post h => ?_, fun post h => ?_⟩
        · unfold wpX_branch
          exact dt_xrw r hc' (br_t rfl (dt_xo0 o (br_t rfl h)))
        · unfold wpY_branch
          exact r.2 _ _ (br_t dt_l0 (br_f n40 (o.elim (fun a => br_t a h) (fun a => br_f a.1 (br_t a.2 h)))))
      · have ij : vp_in (nI j) 40 := vp_in_nI (by omega) (by omega)
        by_cases l : ¬ hd (s * 40 + j) = 0 ∧ D j = v2
        · refine ⟨nI c, _, _, dt_wrel (s := s) (d := v2) (par := nI j) (body := v4) (del := 0) (dep := H j + 1) (D := D) (H := H) (B := B) hc' hs (Or.inl rfl) (Or.inr ⟨j, hj, rfl⟩) q qc, fun post h => ?_, fun post h => ?_⟩
          · unfold wpX_branch
            exact dt_xrw r hc' (br_t rfl (dt_xo hc hs hj (fun _ _ => br_f dt_one (dt_xw hc' hs (Or.inl rfl) (Or.inr ⟨j, hj, rfl, rfl⟩) h)) (fun z => absurd l z)))
          · unfold wpY_branch
            exact r.2 _ _ (br_t dt_l0 (br_f n40 (br_f (nI_pos (by omega)) (br_f (nI_ge hj (by omega)) (dt_ya hc hs hj (fun _ => br_f dt_one ⟨ij, dt_aq j (by omega) rfl (fun _ => dt_yw hc' hs (Or.inl rfl) (Or.inr ⟨j, hj, rfl, rfl⟩) h) (fun z => absurd l.2 z)⟩) (fun z => absurd z l.1))))))
        · refine ⟨-5, _, _, dt_rel (D := D) (H := H) (B := B) q qc, fun post h => ?_, fun post h => ?_⟩
          · unfold wpX_branch
            exact dt_xrw r hc' (br_t rfl (dt_xo hc hs hj (fun y z => absurd ⟨y, z⟩ l) (fun _ => br_t rfl h)))
          · unfold wpY_branch
            exact r.2 _ _ (br_t dt_l0 (br_f n40 (br_f (nI_pos (by omega)) (br_f (nI_ge hj (by omega)) (dt_ya hc hs hj (fun y => br_f dt_one ⟨ij, dt_aq j (by omega) rfl (fun z => absurd ⟨y, z⟩ l) (fun _ => h)⟩) (fun _ => br_t rfl h))))))
theorem dt_pul (q : dt_Q c P L hd fg rd) (qc : dt_C c hd ch) (v1 v2 : Int32) : ∃ r u' v', i_Rel k u' v' ∧ (∀ post : Int32 → SX → Prop, post r u' → wpX_pull post (nI c, D, P, H, B, L, hd, fg) v1 v2) ∧ (∀ post : Int32 → SY → Prop, post r v' → wpY_pull post (nI c, D, P, H, B, L, hd, rd, ch) v1 v2) := by
  have hc := q.1
  rcases dt_refc v1 v2 with ⟨e, e0, e1, r⟩ | ⟨s, hs, rfl, r⟩
  · refine ⟨e, _, _, dt_rel (D := D) (H := H) (B := B) q qc, fun post h => ?_, fun post h => ?_⟩
    · unfold wpX_pull
      exact r.1 _ (br_f e0 h)
    · unfold wpY_pull
      exact r.2 _ _ (br_f e1 (r.2 _ _ h))
  · have hso : s + (1 - s) = 1 := by omega
    obtain ⟨hd', fg', rd', m, q', c1, c2, hX, hY⟩ := dt_pl0 (D := D) (H := H) (B := B) (ch := ch) (d := v2) hso c 0 hd fg rd 0 (by omega) q
    have qc' : dt_C c hd' (upd ch s (ch s + nI m)) := by
      intro t ht
      by_cases e : t = s
      · subst e
        rw [pk_us, qc t ht, nI_add]
        exact congrArg nI (by omega)
      · rw [pk_un e, qc t ht]
        have e2 : t = 1 - s := by omega
        subst e2
        rw [c2]
    refine ⟨nI m, _, _, dt_rel (D := D) (H := H) (B := B) q' qc', fun post h => ?_, fun post h => ?_⟩
    · unfold wpX_pull
      refine r.1 _ (br_t rfl (nm_r (e' := nI (1 - s)) ?_ ⟨c + 1, hX post h⟩))
      exact pk_sub (a := 1) (by omega)
    · unfold wpY_pull
      exact r.2 _ _ (br_t dt_l0 ⟨c + 1, hY post h⟩)
theorem dt_cmp (q : dt_Q c P L hd fg rd) (qc : dt_C c hd ch) (v1 : Int32) : ∃ r u' v', i_Rel k u' v' ∧ (∀ post : Int32 → SX → Prop, post r u' → wpX_compact post (nI c, D, P, H, B, L, hd, fg) v1) ∧ (∀ post : Int32 → SY → Prop, post r v' → wpY_compact post (nI c, D, P, H, B, L, hd, rd, ch) v1) := by
  have hc := q.1
  rcases dt_site v1 with b | ⟨s, hs, rfl⟩
  · refine ⟨-1, _, _, dt_rel (D := D) (H := H) (B := B) q qc, fun post h => ?_, fun post h => ?_⟩
    · unfold wpX_compact
      exact dt_xs0 b (br_t rfl h)
    · unfold wpY_compact
      exact dt_ys0 b (br_f dt_one h)
  · obtain ⟨fg', rd', m, q', hX, hY⟩ := dt_cp0 (D := D) (H := H) (B := B) (ch := ch) hs c 0 fg rd 0 (by omega) q
    refine ⟨nI m, _, _, dt_rel (D := D) (H := H) (B := B) q' qc, fun post h => ?_, fun post h => ?_⟩
    · unfold wpX_compact
      exact dt_xs hs (br_f dt_one ⟨c + 1, hX post h⟩)
    · unfold wpY_compact
      exact dt_ys hs (br_t rfl ⟨c + 1, hY post h⟩)
end
