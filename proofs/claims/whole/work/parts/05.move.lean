section
variable {c : Nat} {D P H B L hd fg rd ch : Nat → Int32}
theorem dt_f01 (h : dt_Q c P L hd fg rd) (p : Nat) : (fg p = 0 ∨ fg p = 1) ∧ (rd p = 0 ∨ rd p = 1) := by
  rcases h.2.2.2.1 p with z | ⟨-, z | z⟩
  · exact ⟨Or.inl z.2.2, Or.inl z.2.1⟩
  · exact ⟨Or.inl z.2, Or.inr z.1⟩
  · exact ⟨Or.inr z.2, Or.inl z.1⟩
theorem dt_xcp {post : SX → Prop} {s o i : Nat} (hs : s < 2) (ho : o < 2) (hi : i < 40) (h01 : fg (o * 40 + i) = 0 ∨ fg (o * 40 + i) = 1) (h : post (nI c, D, P, H, B, L, upd hd (s * 40 + i) 1, upd fg (s * 40 + i) (fg (o * 40 + i)))) : wpX_copy post (nI c, D, P, H, B, L, hd, fg) (nI o) (nI s) (nI i) := by
  have es : (nI s * 40 + nI i).toNatClampNeg = s * 40 + i := by rw [dt_pl]; exact nI_clamp (by omega)
  have eo : (nI o * 40 + nI i).toNatClampNeg = o * 40 + i := by rw [dt_pl]; exact nI_clamp (by omega)
  have is : vp_in (nI s * 40 + nI i) 80 := pk_in (s * 40 + i) 80 (by omega) (dt_pl s i)
  have io : vp_in (nI o * 40 + nI i) 80 := pk_in (o * 40 + i) 80 (by omega) (dt_pl o i)
  unfold wpX_copy wpX_place
  dsimp only
  exact ⟨is, nm_r (by rw [es, dt_vb1]) ⟨io, is, nm_r (by rw [es, eo, dt_vb h01]) h⟩⟩
theorem dt_Qp {s o i : Nat} (hs : s < 2) (ho : o < 2) (hi : i < c) (ha : ¬ hd (o * 40 + i) = 0) (hb : hd (s * 40 + i) = 0) (h : dt_Q c P L hd fg rd) : dt_Q c P L (upd hd (s * 40 + i) 1) (upd fg (s * 40 + i) (fg (o * 40 + i))) (upd rd (s * 40 + i) (rd (o * 40 + i))) := by
  obtain ⟨h1, h2, h3, h4, h5⟩ := h
  refine ⟨h1, h2, h3, fun p => ?_, fun t r ht hr hr' => ?_⟩
  · by_cases e : p = s * 40 + i
    · subst e
      rw [pk_us, pk_us, pk_us]
      rcases h4 (o * 40 + i) with z | z
      · exact absurd z.1 ha
      · exact Or.inr ⟨rfl, z.2⟩
    · rw [pk_un e, pk_un e, pk_un e]
      exact h4 p
  · rw [pk_un (by omega)]
    exact h5 t r ht hr hr'
theorem dt_pl0 {s o : Nat} {d : Int32} (hso : s + o = 1) : ∀ n i (hd fg rd : Nat → Int32) m, i + n = c → dt_Q c P L hd fg rd → ∃ (hd' fg' rd' : Nat → Int32) (m' : Nat), dt_Q c P L hd' fg' rd' ∧ dt_cn (fun r => ¬ hd' (s * 40 + r) = 0) c + m = dt_cn (fun r => ¬ hd (s * 40 + r) = 0) c + m' ∧ dt_cn (fun r => ¬ hd' (o * 40 + r) = 0) c = dt_cn (fun r => ¬ hd (o * 40 + r) = 0) c ∧ (∀ post : Int32 → SX → Prop, post (nI m') (nI c, D, P, H, B, L, hd', fg') → wX_pull_23 post (nI s) d (nI o) (n + 1) (nI m) (nI i) (nI c) D P H B L hd fg) ∧ (∀ post : Int32 → SY → Prop, post (nI m') (nI c, D, P, H, B, L, hd', rd', upd ch s (ch s + nI m')) → wY_pull_21 post (nI s) d (nI c) (n + 1) (nI m) (nI i) D P H B L hd rd ch) := by
  have hs : s < 2 := by omega
  have ho : o < 2 := by omega
  have eo : (1 : Int32) - nI s = nI o := by
    rw [show (1 : Int32) = nI 1 from rfl, pk_sub (by omega)]
    exact congrArg nI (by omega)
  intro n
  induction n with
  | zero =>
    intro i hd fg rd m hi q
    have hc := q.1
    have es : (nI s).toNatClampNeg = s := nI_clamp (by omega)
    have is : vp_in (nI s) 2 := vp_in_nI hs (by omega)
    exact ⟨hd, fg, rd, m, q, rfl, rfl, fun post h => br_t (nI_le (by omega) (by omega)) h, fun post h => br_t (nI_le (by omega) (by omega)) ⟨is, is, nm_r (by rw [es]) h⟩⟩
  | succ n ih =>
    intro i hd fg rd m hi q
    have hc := q.1
    have es : (nI s * 40 + nI i) = nI (s * 40 + i) := dt_pl s i
    have et : ((1 - nI s) * 40 + nI i) = nI (o * 40 + i) := by rw [eo]; exact dt_pl o i
    have i40 : vp_in (nI i) 40 := vp_in_nI (by omega) (by omega)
    have is : vp_in (nI (s * 40 + i)) 80 := vp_in_nI (by omega) (by omega)
    have io : vp_in (nI (o * 40 + i)) 80 := vp_in_nI (by omega) (by omega)
    by_cases a : (¬ hd (o * 40 + i) = 0 ∧ D i = d) ∧ hd (s * 40 + i) = 0
    · obtain ⟨⟨a1, a2⟩, a3⟩ := a
      obtain ⟨hd', fg', rd', m', q', c1, c2, hX, hY⟩ := ih (i + 1) (upd hd (s * 40 + i) 1) (upd fg (s * 40 + i) (fg (o * 40 + i))) (upd rd (s * 40 + i) (rd (o * 40 + i))) (m + 1) (by omega) (dt_Qp hs ho (by omega) a1 a3 q)
      have u1 : dt_cn (fun r => ¬ upd hd (s * 40 + i) 1 (s * 40 + r) = 0) c = dt_cn (fun r => ¬ hd (s * 40 + r) = 0) c + 1 := by
        refine dt_cn_up (a := i) (fun z => z a3) ?_ (fun j hj => ?_) c (by omega)
        · rw [pk_us]
          exact dt_one
        · rw [pk_un (by omega)]
      have u2 : dt_cn (fun r => ¬ upd hd (s * 40 + i) 1 (o * 40 + r) = 0) c = dt_cn (fun r => ¬ hd (o * 40 + r) = 0) c := by
        refine dt_cn_congr c (fun j hj => ?_)
        rw [pk_un (by omega)]
      refine ⟨hd', fg', rd', m', q', by omega, by rw [c2, u2], fun post h => ?_, fun post h => ?_⟩
      · exact br_f (nI_ge (by omega) (by omega)) (dt_xo hc ho (by omega) (fun _ _ => br_f dt_one (dt_xh hc hs (by omega) (fun z => absurd a3 z) (fun _ => br_t rfl (dt_xcp hs ho (by omega) (dt_f01 q _).1 (nm_r (nI_1 m) (nm_r (nI_1 i) (hX post h))))))) (fun z => absurd ⟨a1, a2⟩ z))
      · refine br_f (nI_ge (by omega) (by omega)) (nm_r es (nm_r et ⟨i40, dt_aq i (by omega) rfl (fun _ => ⟨io, dt_aq (o * 40 + i) (by omega) rfl (fun z => absurd z a1) (fun _ => ⟨is, dt_aq (s * 40 + i) (by omega) rfl (fun _ => ⟨is, nm_r (by rw [nI_clamp (by omega), dt_vb1]) ⟨io, is, nm_r (by rw [nI_clamp (by omega), nI_clamp (by omega), dt_vb (dt_f01 q _).2]) (nm_r (nI_1 m) (nm_r (nI_1 i) (hY post h)))⟩⟩) (fun z => absurd a3 z)⟩)⟩) (fun z => absurd a2 z)⟩))
    · obtain ⟨hd', fg', rd', m', q', c1, c2, hX, hY⟩ := ih (i + 1) hd fg rd m (by omega) q
      refine ⟨hd', fg', rd', m', q', c1, c2, fun post h => ?_, fun post h => ?_⟩
      · exact br_f (nI_ge (by omega) (by omega)) (dt_xo hc ho (by omega) (fun a1 a2 => br_f dt_one (dt_xh hc hs (by omega) (fun z => br_f dt_one (nm_r (nI_1 i) (hX post h))) (fun z => absurd ⟨⟨a1, a2⟩, z⟩ a))) (fun z => br_t rfl (nm_r (nI_1 i) (hX post h))))
      · exact br_f (nI_ge (by omega) (by omega)) (nm_r es (nm_r et ⟨i40, dt_aq i (by omega) rfl (fun a2 => ⟨io, dt_aq (o * 40 + i) (by omega) rfl (fun z => nm_r (nI_1 i) (hY post h)) (fun a1 => ⟨is, dt_aq (s * 40 + i) (by omega) rfl (fun z => absurd ⟨⟨a1, a2⟩, z⟩ a) (fun z => nm_r (nI_1 i) (hY post h))⟩)⟩) (fun z => nm_r (nI_1 i) (hY post h))⟩))
theorem dt_Qc {p : Nat} (ha : hd p = 1) (h : dt_Q c P L hd fg rd) : dt_Q c P L hd (upd fg p 1) (upd rd p 0) := by
  obtain ⟨h1, h2, h3, h4, h5⟩ := h
  refine ⟨h1, h2, h3, fun q => ?_, h5⟩
  by_cases e : q = p
  · subst e
    rw [pk_us, pk_us]
    exact Or.inr ⟨ha, Or.inr ⟨rfl, rfl⟩⟩
  · rw [pk_un e, pk_un e]
    exact h4 q
theorem dt_cp0 {s : Nat} (hs : s < 2) : ∀ n i (fg rd : Nat → Int32) m, i + n = c → dt_Q c P L hd fg rd → ∃ (fg' rd' : Nat → Int32) (m' : Nat), dt_Q c P L hd fg' rd' ∧ (∀ post : Int32 → SX → Prop, post (nI m') (nI c, D, P, H, B, L, hd, fg') → wX_compact_13 post (nI s) (nI c) (n + 1) (nI m) (nI i) D P H B L hd fg) ∧ (∀ post : Int32 → SY → Prop, post (nI m') (nI c, D, P, H, B, L, hd, rd', ch) → wY_compact_14 post (nI s) (nI c) (n + 1) (nI m) (nI i) D P H B L hd rd ch) := by
  intro n
  induction n with
  | zero =>
    intro i fg rd m hi q
    have hc := q.1
    exact ⟨fg, rd, m, q, fun post h => br_t (nI_le (by omega) (by omega)) h, fun post h => br_t (nI_le (by omega) (by omega)) h⟩
  | succ n ih =>
    intro i fg rd m hi q
    have hc := q.1
    have ep : (nI s * 40 + nI i).toNatClampNeg = s * 40 + i := by rw [dt_pl]; exact nI_clamp (by omega)
    have ip : vp_in (nI s * 40 + nI i) 80 := pk_in (s * 40 + i) 80 (by omega) (dt_pl s i)
    by_cases a : rd (s * 40 + i) = 0
    · obtain ⟨fg', rd', m', q', hX, hY⟩ := ih (i + 1) fg rd m (by omega) q
      have b : ¬ (¬ hd (s * 40 + i) = 0 ∧ fg (s * 40 + i) = 0) := by
        rcases q.2.2.2.1 (s * 40 + i) with z | ⟨-, z | z⟩
        · exact fun y => y.1 z.1
        · exact absurd (z.1.symm.trans a) dt_one
        · exact fun y => dt_one (z.2.symm.trans y.2)
      refine ⟨fg', rd', m', q', fun post h => ?_, fun post h => ?_⟩
      · exact br_f (nI_ge (by omega) (by omega)) (dt_xc hc hs (by omega) (fun y z => absurd ⟨y, z⟩ b) (fun _ => br_t rfl (nm_r (nI_1 i) (hX post h))))
      · exact br_f (nI_ge (by omega) (by omega)) ⟨ip, dt_aq (s * 40 + i) (by omega) (dt_pl s i) (fun _ => nm_r (nI_1 i) (hY post h)) (fun z => absurd a z)⟩
    · have b : hd (s * 40 + i) = 1 ∧ fg (s * 40 + i) = 0 := by
        rcases q.2.2.2.1 (s * 40 + i) with z | ⟨y, z | z⟩
        · exact absurd z.2.1 a
        · exact ⟨y, z.2⟩
        · exact absurd z.1 a
      have b0 : ¬ hd (s * 40 + i) = 0 := by rw [b.1]; exact dt_one
      by_cases k : dt_kid c P hd s i
      · obtain ⟨fg', rd', m', q', hX, hY⟩ := ih (i + 1) (upd fg (s * 40 + i) 1) (upd rd (s * 40 + i) 0) (m + 1) (by omega) (dt_Qc b.1 q)
        refine ⟨fg', rd', m', q', fun post h => ?_, fun post h => ?_⟩
        · refine br_f (nI_ge (by omega) (by omega)) (dt_xc hc hs (by omega) (fun _ _ => br_f dt_one (dt_xk hc hs (fun _ => br_f dt_one ?_) (fun z => absurd k z))) (fun z => absurd ⟨b0, b.2⟩ z))
          unfold wpX_place
          exact ⟨ip, nm_r (by rw [ep, dt_vb1]) (nm_r (nI_1 m) (nm_r (nI_1 i) (hX post h)))⟩
        · exact br_f (nI_ge (by omega) (by omega)) ⟨ip, dt_aq (s * 40 + i) (by omega) (dt_pl s i) (fun z => absurd z a) (fun _ => dt_yf hc hs (by omega) (fun z => absurd k z.2) (fun _ => br_t rfl ⟨ip, nm_r (by rw [ep, dt_vb0]) (nm_r (nI_1 m) (nm_r (nI_1 i) (hY post h)))⟩))⟩
      · obtain ⟨fg', rd', m', q', hX, hY⟩ := ih (i + 1) fg rd m (by omega) q
        refine ⟨fg', rd', m', q', fun post h => ?_, fun post h => ?_⟩
        · exact br_f (nI_ge (by omega) (by omega)) (dt_xc hc hs (by omega) (fun _ _ => br_f dt_one (dt_xk hc hs (fun z => absurd z k) (fun _ => br_t rfl (nm_r (nI_1 i) (hX post h))))) (fun z => absurd ⟨b0, b.2⟩ z))
        · exact br_f (nI_ge (by omega) (by omega)) ⟨ip, dt_aq (s * 40 + i) (by omega) (dt_pl s i) (fun z => absurd z a) (fun _ => dt_yf hc hs (by omega) (fun _ => br_f dt_one (nm_r (nI_1 i) (hY post h))) (fun z => absurd ⟨b0, k⟩ z))⟩
end
