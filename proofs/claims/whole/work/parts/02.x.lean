section
variable {c : Nat} {D P H B L hd fg : Nat → Int32}
def dt_out (c : Nat) (x : Int32) : Prop := x < 0 ∨ (¬ x < 0 ∧ nI c ≤ x)
theorem dt_ix (x : Int32) {c : Nat} (hc : c ≤ 40) : dt_out c x ∨ ∃ j, j < c ∧ x = nI j := by
  by_cases h0 : x < 0
  · exact Or.inl (Or.inl h0)
  · rcases pk_ix x (n := c) (by omega) with h | h | h
    · exact absurd h h0
    · exact Or.inl (Or.inr ⟨h0, h⟩)
    · exact Or.inr h
theorem dt_xe0 {post : Int32 → Prop} {x : Int32} (hx : dt_out c x) (h : post 0) : wpX_exists post (nI c, D, P, H, B, L, hd, fg) x :=
  hx.elim (fun a => br_t a h) (fun a => br_f a.1 (br_t a.2 h))
theorem dt_xe1 {post : Int32 → Prop} {j : Nat} (hc : c ≤ 40) (hj : j < c) (h : post 1) : wpX_exists post (nI c, D, P, H, B, L, hd, fg) (nI j) :=
  br_f (nI_pos (by omega)) (br_f (nI_ge hj (by omega)) h)
theorem dt_xh0 {post : Int32 → Prop} {x y : Int32} (hx : dt_out c x) (h : post 0) : wpX_has post (nI c, D, P, H, B, L, hd, fg) y x := by
  unfold wpX_has
  dsimp only
  exact dt_xe0 hx (br_t rfl h)
theorem dt_xh {post : Int32 → Prop} {s j : Nat} (hc : c ≤ 40) (hs : s < 2) (hj : j < c) (hT : ¬ hd (s * 40 + j) = 0 → post 1) (hF : hd (s * 40 + j) = 0 → post 0) : wpX_has post (nI c, D, P, H, B, L, hd, fg) (nI s) (nI j) := by
  unfold wpX_has
  dsimp only
  exact dt_xe1 hc hj (br_f dt_one ⟨pk_in (s * 40 + j) 80 (by omega) (dt_pl s j), dt_aq (s * 40 + j) (by omega) (dt_pl s j) hF hT⟩)
theorem dt_xo0 {post : Int32 → Prop} {x y d : Int32} (hx : dt_out c x) (h : post 0) : wpX_hasOf post (nI c, D, P, H, B, L, hd, fg) y d x := by
  unfold wpX_hasOf
  dsimp only
  exact dt_xh0 hx (br_t rfl h)
theorem dt_xo {post : Int32 → Prop} {s j : Nat} {d : Int32} (hc : c ≤ 40) (hs : s < 2) (hj : j < c) (hT : ¬ hd (s * 40 + j) = 0 → D j = d → post 1) (hF : ¬ (¬ hd (s * 40 + j) = 0 ∧ D j = d) → post 0) : wpX_hasOf post (nI c, D, P, H, B, L, hd, fg) (nI s) d (nI j) := by
  unfold wpX_hasOf
  dsimp only
  exact dt_xh hc hs hj (fun h => br_f dt_one ⟨vp_in_nI (by omega) (by omega), dt_aq j (by omega) rfl (fun e => hT h e) (fun e => hF (fun z => e z.2))⟩) (fun h => br_t rfl (hF (fun z => z.1 h)))
theorem dt_xc0 {post : Int32 → Prop} {x y : Int32} (hx : dt_out c x) (h : post 0) : wpX_canRead post (nI c, D, P, H, B, L, hd, fg) y x := by
  unfold wpX_canRead
  dsimp only
  exact dt_xh0 hx (br_t rfl h)
theorem dt_xc {post : Int32 → Prop} {s j : Nat} (hc : c ≤ 40) (hs : s < 2) (hj : j < c) (hT : ¬ hd (s * 40 + j) = 0 → fg (s * 40 + j) = 0 → post 1) (hF : ¬ (¬ hd (s * 40 + j) = 0 ∧ fg (s * 40 + j) = 0) → post 0) : wpX_canRead post (nI c, D, P, H, B, L, hd, fg) (nI s) (nI j) := by
  unfold wpX_canRead
  dsimp only
  exact dt_xh hc hs hj (fun h => br_f dt_one ⟨pk_in (s * 40 + j) 80 (by omega) (dt_pl s j), dt_aq (s * 40 + j) (by omega) (dt_pl s j) (fun e => hT h e) (fun e => hF (fun z => e z.2))⟩) (fun h => br_t rfl (hF (fun z => z.1 h)))
theorem dt_xk0 {post : Int32 → Prop} {s r : Nat} (hc : c ≤ 40) (hs : s < 2) (hT : dt_kid c P hd s r → post 1) (hF : ¬ dt_kid c P hd s r → post 0) : ∀ d i, i + d = c → (∀ k, k < i → ¬ (P k = nI r ∧ ¬ hd (s * 40 + k) = 0)) → wX_hasChild_2 post (nI s) (nI r) (nI c) D P H B L hd fg (d + 1) (nI i) := by
  intro d
  induction d with
  | zero =>
    intro i hi hn
    refine br_t (nI_le (by omega) (by omega)) (hF ?_)
    rintro ⟨k, hk, a, b⟩
    exact hn k (by omega) ⟨a, b⟩
  | succ d ih =>
    intro i hi hn
    refine br_f (nI_ge (by omega) (by omega)) ⟨vp_in_nI (by omega) (by omega), dt_aq i (by omega) rfl (fun e => ?_) (fun e => ?_)⟩
    · exact dt_xh hc hs (by omega) (fun h => br_f dt_one (hT ⟨i, by omega, e, h⟩)) (fun h => br_t rfl (nm_r (nI_1 i) (ih (i + 1) (by omega) (dt_lts hn (fun z => z.2 h)))))
    · exact nm_r (nI_1 i) (ih (i + 1) (by omega) (dt_lts hn (fun z => e z.1)))
theorem dt_xk {post : Int32 → Prop} {s r : Nat} (hc : c ≤ 40) (hs : s < 2) (hT : dt_kid c P hd s r → post 1) (hF : ¬ dt_kid c P hd s r → post 0) : wpX_hasChild post (nI c, D, P, H, B, L, hd, fg) (nI s) (nI r) :=
  ⟨c + 1, dt_xk0 hc hs hT hF c 0 (by omega) (fun k hk => absurd hk (Nat.not_lt_zero k))⟩
theorem dt_xl0 {post : Int32 → Prop} {x y d : Int32} (hx : dt_out c x) (h : post 0) : wpX_isLeafOf post (nI c, D, P, H, B, L, hd, fg) y d x := by
  unfold wpX_isLeafOf
  dsimp only
  exact dt_xo0 hx (br_t rfl h)
theorem dt_xl {post : Int32 → Prop} {s j : Nat} {d : Int32} (hc : c ≤ 40) (hs : s < 2) (hj : j < c) (hT : dt_lf c D P hd s d j → post 1) (hF : ¬ dt_lf c D P hd s d j → post 0) : wpX_isLeafOf post (nI c, D, P, H, B, L, hd, fg) (nI s) d (nI j) := by
  unfold wpX_isLeafOf
  dsimp only
  exact dt_xo hc hs hj (fun h e => br_f dt_one (dt_xk hc hs (fun k => br_f dt_one (hF (fun l => l.2.2 k))) (fun k => br_t rfl (hT ⟨e, h, k⟩)))) (fun h => br_t rfl (hF (fun l => h ⟨l.2.1, l.1⟩)))
theorem dt_xp0 {post : Int32 → Prop} {x y d : Int32} (hx : dt_out c x) (h : post 0) : wpX_isOpenLeafOf post (nI c, D, P, H, B, L, hd, fg) y d x := by
  unfold wpX_isOpenLeafOf
  dsimp only
  exact dt_xl0 hx (br_t rfl h)
theorem dt_xp {post : Int32 → Prop} {s j : Nat} {d : Int32} (hc : c ≤ 40) (hs : s < 2) (hj : j < c) (hT : dt_lf c D P hd s d j ∧ L j = 0 → post 1) (hF : ¬ (dt_lf c D P hd s d j ∧ L j = 0) → post 0) : wpX_isOpenLeafOf post (nI c, D, P, H, B, L, hd, fg) (nI s) d (nI j) := by
  unfold wpX_isOpenLeafOf
  dsimp only
  exact dt_xl hc hs hj (fun h => br_f dt_one ⟨vp_in_nI (by omega) (by omega), dt_aq j (by omega) rfl (fun e => hT ⟨h, e⟩) (fun e => hF (fun z => e z.2))⟩) (fun h => br_t rfl (hF (fun z => h z.1)))
theorem dt_xb {post : Int32 → Prop} {a b : Nat} (ha : a < 40) (hb : b < 40) (hL : ∀ r, L r = 0 ∨ L r = 1) (hT : dt_bt H B L a b → post 1) (hF : ¬ dt_bt H B L a b → post 0) : wpX_beats post (nI c, D, P, H, B, L, hd, fg) (nI a) (nI b) := by
  have ia : vp_in (nI a) 40 := vp_in_nI ha (by omega)
  have ib : vp_in (nI b) 40 := vp_in_nI hb (by omega)
  simp only [wpX_beats, nI_clamp (show a < 2 ^ 31 by omega), nI_clamp (show b < 2 ^ 31 by omega), nI_leI (show a < 2 ^ 31 by omega) (show b < 2 ^ 31 by omega)]
  refine ⟨ia, ib, fun e1 => ⟨ia, ib, fun e2 => ⟨ia, ib, fun e3 => ⟨fun h => hF ?_, fun h => hT ?_⟩, fun e3 => ⟨ia, ib, fun h => hF ?_, fun h => hT ?_⟩⟩, fun e2 => ⟨ia, ib, fun h => hF ?_, fun h => hT ?_⟩⟩, fun e1 => ⟨ib, dt_nb (hL b), ?_⟩⟩
  · simp [dt_bt, e1, e2, e3, h]
  · exact Or.inr ⟨e1, Or.inr ⟨e2, Or.inr ⟨e3, by omega⟩⟩⟩
  · simp only [dt_bt]; grind
  · exact Or.inr ⟨e1, Or.inr ⟨e2, Or.inl ⟨e3, h⟩⟩⟩
  · simp only [dt_bt]; grind
  · exact Or.inr ⟨e1, Or.inl ⟨e2, h⟩⟩
  · rcases hL b with h | h
    · rw [h]
      refine hF ?_
      simp only [dt_bt]; grind
    · rw [h]
      exact hT (Or.inl ⟨e1, by rw [h]; exact dt_one⟩)
theorem dt_xbl0 {post : Int32 → Prop} {s : Nat} {d : Int32} (hc : c ≤ 40) (hs : s < 2) (hL : ∀ r, L r = 0 ∨ L r = 1) (hp : ∀ z, dt_bs (dt_lf c D P hd s d) (dt_bt H B L) c z → post z) : ∀ n i z, i + n = c → dt_bi (dt_lf c D P hd s d) (dt_bt H B L) i z → wX_bestLeaf_5 post (nI s) d (nI c) D P H B L hd fg (n + 1) z (nI i) := by
  intro n
  induction n with
  | zero =>
    intro i z hi h
    have e : i = c := by omega
    subst e
    exact br_t (nI_le (by omega) (by omega)) (hp z (dt_fin hL h))
  | succ n ih =>
    intro i z hi h
    refine br_f (nI_ge (by omega) (by omega)) (dt_xl hc hs (by omega) (fun l => br_f dt_one ?_) (fun l => br_t rfl (nm_r (nI_1 i) (ih (i + 1) z (by omega) (dt_bi_f h l)))))
    rcases h with ⟨rfl, m⟩ | ⟨b, hb, rfl, lb, m⟩
    · exact br_t rfl (nm_r (nI_1 i) (ih (i + 1) (nI i) (by omega) (dt_bi_n m l)))
    · exact br_f (dt_nm (by omega)) (dt_xb (by omega) (by omega) hL (fun t => br_f dt_one (nm_r (nI_1 i) (ih (i + 1) (nI i) (by omega) (dt_bi_t hL l m t)))) (fun t => br_t rfl (nm_r (nI_1 i) (ih (i + 1) (nI b) (by omega) (dt_bi_o hL hb lb m t)))))
theorem dt_xbl {post : Int32 → Prop} {s : Nat} {d : Int32} (hc : c ≤ 40) (hs : s < 2) (hL : ∀ r, L r = 0 ∨ L r = 1) (hp : ∀ z, dt_bs (dt_lf c D P hd s d) (dt_bt H B L) c z → post z) : wpX_bestLeaf post (nI c, D, P, H, B, L, hd, fg) (nI s) d :=
  ⟨c + 1, dt_xbl0 hc hs hL hp c 0 (-1) (by omega) (Or.inl ⟨rfl, fun j hj => absurd hj (Nat.not_lt_zero j)⟩)⟩
theorem dt_xcb0 {post : Int32 → Prop} {s r : Nat} {d : Int32} (hc : c ≤ 40) (hs : s < 2) (hr : r < 40) (hL : ∀ r, L r = 0 ∨ L r = 1) (hp : post (nI (dt_cn (fun q => dt_lf c D P hd s d q ∧ dt_bt H B L q r) c))) : ∀ n i m, i + n = c → m = dt_cn (fun q => dt_lf c D P hd s d q ∧ dt_bt H B L q r) i → wX_countBetter_6 post (nI s) d (nI r) (nI c) D P H B L hd fg (n + 1) (nI m) (nI i) := by
  intro n
  induction n with
  | zero =>
    intro i m hi h
    have e : i = c := by omega
    subst e
    subst h
    exact br_t (nI_le (by omega) (by omega)) hp
  | succ n ih =>
    intro i m hi h
    exact br_f (nI_ge (by omega) (by omega)) (dt_xl hc hs (by omega) (fun l => br_f dt_one (dt_xb (by omega) (by omega) hL (fun t => br_f dt_one (nm_r (nI_1 m) (nm_r (nI_1 i) (ih (i + 1) (m + 1) (by omega) (dt_ct h ⟨l, t⟩))))) (fun t => br_t rfl (nm_r (nI_1 i) (ih (i + 1) m (by omega) (dt_cf h (fun z => t z.2))))))) (fun l => br_t rfl (nm_r (nI_1 i) (ih (i + 1) m (by omega) (dt_cf h (fun z => l z.1))))))
theorem dt_xcb {post : Int32 → Prop} {s r : Nat} {d : Int32} (hc : c ≤ 40) (hs : s < 2) (hr : r < 40) (hL : ∀ r, L r = 0 ∨ L r = 1) (hp : post (nI (dt_cn (fun q => dt_lf c D P hd s d q ∧ dt_bt H B L q r) c))) : wpX_countBetter post (nI c, D, P, H, B, L, hd, fg) (nI s) d (nI r) :=
  ⟨c + 1, dt_xcb0 hc hs hr hL hp c 0 0 (by omega) rfl⟩
theorem dt_xcf {post : Int32 → Prop} {s : Nat} {d : Int32} (hc : c ≤ 40) (hs : s < 2) (h0 : dt_cn (fun q => dt_lf c D P hd s d q ∧ L q = 0) c = 0 → post 0) (h1 : ¬ dt_cn (fun q => dt_lf c D P hd s d q ∧ L q = 0) c = 0 → post (nI (dt_cn (fun q => dt_lf c D P hd s d q ∧ L q = 0) c) - 1)) : ∀ n i m, i + n = c → m = dt_cn (fun q => dt_lf c D P hd s d q ∧ L q = 0) i → wX_conflicts_18 post (nI s) d (nI c) D P H B L hd fg (n + 1) (nI m) (nI i) := by
  intro n
  induction n with
  | zero =>
    intro i m hi h
    have e : i = c := by omega
    subst e
    refine br_t (nI_le (by omega) (by omega)) ?_
    have hm := dt_cn_le (fun q => dt_lf i D P hd s d q ∧ L q = 0) i
    by_cases z : m = 0
    · subst z
      exact br_t rfl (h0 h.symm)
    · rw [← h] at h1 hm
      exact br_f (nI_ne0 (by omega) (by omega)) (h1 z)
  | succ n ih =>
    intro i m hi h
    exact br_f (nI_ge (by omega) (by omega)) (dt_xp hc hs (by omega) (fun l => br_f dt_one (nm_r (nI_1 m) (nm_r (nI_1 i) (ih (i + 1) (m + 1) (by omega) (dt_ct h l))))) (fun l => br_t rfl (nm_r (nI_1 i) (ih (i + 1) m (by omega) (dt_cf h l)))))
theorem dt_xlv {post : Int32 → Prop} {s : Nat} {d : Int32} (hc : c ≤ 40) (hs : s < 2) (hp : post (nI (dt_cn (dt_lf c D P hd s d) c))) : ∀ n i m, i + n = c → m = dt_cn (dt_lf c D P hd s d) i → wX_leaves_18 post (nI s) d (nI c) D P H B L hd fg (n + 1) (nI m) (nI i) := by
  intro n
  induction n with
  | zero =>
    intro i m hi h
    have e : i = c := by omega
    subst e
    subst h
    exact br_t (nI_le (by omega) (by omega)) hp
  | succ n ih =>
    intro i m hi h
    exact br_f (nI_ge (by omega) (by omega)) (dt_xl hc hs (by omega) (fun l => br_f dt_one (nm_r (nI_1 m) (nm_r (nI_1 i) (ih (i + 1) (m + 1) (by omega) (dt_ct h l))))) (fun l => br_t rfl (nm_r (nI_1 i) (ih (i + 1) m (by omega) (dt_cf h l)))))
theorem dt_xch {post : Int32 → Prop} {s : Nat} (hc : c ≤ 40) (hs : s < 2) (hp : post (nI (dt_cn (fun r => ¬ hd (s * 40 + r) = 0) c))) : ∀ n i m, i + n = c → m = dt_cn (fun r => ¬ hd (s * 40 + r) = 0) i → wX_changes_13 post (nI s) (nI c) D P H B L hd fg (n + 1) (nI m) (nI i) := by
  intro n
  induction n with
  | zero =>
    intro i m hi h
    have e : i = c := by omega
    subst e
    subst h
    exact br_t (nI_le (by omega) (by omega)) hp
  | succ n ih =>
    intro i m hi h
    exact br_f (nI_ge (by omega) (by omega)) (dt_xh hc hs (by omega) (fun l => br_f dt_one (nm_r (nI_1 m) (nm_r (nI_1 i) (ih (i + 1) (m + 1) (by omega) (dt_ct h l))))) (fun l => br_t rfl (nm_r (nI_1 i) (ih (i + 1) m (by omega) (dt_cf h (fun z => z l))))))
end
