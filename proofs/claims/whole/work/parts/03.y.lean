section
variable {c : Nat} {D P H B L hd rd ch : Nat → Int32}
theorem dt_ya0 {post : Int32 → Prop} {x y : Int32} (hx : dt_out c x) (h : post 0) : wpY_at post (nI c, D, P, H, B, L, hd, rd, ch) y x :=
  hx.elim (fun a => br_t a h) (fun a => br_f a.1 (br_t a.2 h))
theorem dt_ya {post : Int32 → Prop} {s j : Nat} (hc : c ≤ 40) (hs : s < 2) (hj : j < c) (hT : ¬ hd (s * 40 + j) = 0 → post 1) (hF : hd (s * 40 + j) = 0 → post 0) : wpY_at post (nI c, D, P, H, B, L, hd, rd, ch) (nI s) (nI j) :=
  br_f (nI_pos (by omega)) (br_f (nI_ge hj (by omega)) ⟨pk_in (s * 40 + j) 80 (by omega) (dt_pl s j), dt_aq (s * 40 + j) (by omega) (dt_pl s j) hF hT⟩)
theorem dt_yk0 {post : Int32 → Prop} {s r : Nat} (hc : c ≤ 40) (hs : s < 2) (hr : r < c) (hT : dt_yl c P hd s r → post 1) (hF : ¬ dt_yl c P hd s r → post 0) : ∀ d i, i + d = c → (∀ k, k < i → ¬ (P k = nI r ∧ ¬ hd (s * 40 + k) = 0)) → wY_leaf_2 post (nI s) (nI r) (nI c) D P H B L hd rd ch (d + 1) (nI i) := by
  intro d
  induction d with
  | zero =>
    intro i hi hn
    refine br_t (nI_le (by omega) (by omega)) (dt_ya hc hs hr (fun h => ⟨rfl, hT ⟨h, ?_⟩⟩) (fun h => ⟨rfl, hF (fun z => z.1 h)⟩))
    rintro ⟨k, hk, a, b⟩
    exact hn k (by omega) ⟨a, b⟩
  | succ d ih =>
    intro i hi hn
    refine br_f (nI_ge (by omega) (by omega)) ⟨pk_in (s * 40 + i) 80 (by omega) (dt_pl s i), dt_aq (s * 40 + i) (by omega) (dt_pl s i) (fun e => ?_) (fun e => ⟨vp_in_nI (by omega) (by omega), dt_aq i (by omega) rfl (fun f => ?_) (fun f => ?_)⟩)⟩
    · exact nm_r (nI_1 i) (ih (i + 1) (by omega) (dt_lts hn (fun z => z.2 e)))
    · exact hF (fun z => z.2 ⟨i, by omega, f, e⟩)
    · exact nm_r (nI_1 i) (ih (i + 1) (by omega) (dt_lts hn (fun z => f z.1)))
theorem dt_yf {post : Int32 → Prop} {s r : Nat} (hc : c ≤ 40) (hs : s < 2) (hr : r < c) (hT : dt_yl c P hd s r → post 1) (hF : ¬ dt_yl c P hd s r → post 0) : wpY_leaf post (nI c, D, P, H, B, L, hd, rd, ch) (nI s) (nI r) :=
  ⟨c + 1, dt_yk0 hc hs hr hT hF c 0 (by omega) (fun k hk => absurd hk (Nat.not_lt_zero k))⟩
theorem dt_yb {post : Int32 → Prop} {a b : Nat} (ha : a < 40) (hb : b < 40) (hL : ∀ r, L r = 0 ∨ L r = 1) (hT : dt_bt H B L a b → post 1) (hF : ¬ dt_bt H B L a b → post 0) : wpY_better post (nI c, D, P, H, B, L, hd, rd, ch) (nI a) (nI b) := by
  have ia : vp_in (nI a) 40 := vp_in_nI ha (by omega)
  have ib : vp_in (nI b) 40 := vp_in_nI hb (by omega)
  simp only [wpY_better, nI_clamp (show a < 2 ^ 31 by omega), nI_clamp (show b < 2 ^ 31 by omega), nI_leI (show a < 2 ^ 31 by omega) (show b < 2 ^ 31 by omega)]
  refine ⟨ia, ib, fun e1 => ⟨ia, ib, fun e2 => ⟨ia, ib, fun e3 => ⟨fun h => hF ?_, fun h => hT ?_⟩, fun e3 => ⟨ia, ib, fun h => hF ?_, fun h => hT ?_⟩⟩, fun e2 => ⟨ia, ib, fun h => hF ?_, fun h => hT ?_⟩⟩, fun e1 => ⟨ib, dt_nb (hL b), ?_⟩⟩
  · simp [dt_bt, e1, e2, e3, h]
  · exact Or.inr ⟨e1, Or.inr ⟨e2, Or.inr ⟨e3, by omega⟩⟩⟩
  · simp only [dt_bt]; grind
  · exact Or.inr ⟨e1, Or.inr ⟨e2, Or.inl ⟨e3, h⟩⟩⟩
  · simp only [dt_bt]; grind
  · exact Or.inr ⟨e1, Or.inl ⟨e2, h⟩⟩
  · rcases hL b with h | h
    · rw [h]
      refine hF ?_
      simp only [dt_bt]; grind
    · rw [h]
      exact hT (Or.inl ⟨e1, by rw [h]; exact dt_one⟩)
theorem dt_yh0 {post : Int32 → Prop} {s r : Nat} {d x : Int32} (hc : c ≤ 40) (hs : s < 2) (hr : r < 40) (hL : ∀ r, L r = 0 ∨ L r = 1) (hp : post (nI (dt_cn (fun q => dt_lf c D P hd s d q ∧ (¬ x = 0 ∨ L q = 0) ∧ dt_bt H B L q r) c))) : ∀ n i m, i + n = c → m = dt_cn (fun q => dt_lf c D P hd s d q ∧ (¬ x = 0 ∨ L q = 0) ∧ dt_bt H B L q r) i → wY_ahead_6 post (nI s) d (nI r) x (nI c) D P H B L hd rd ch (n + 1) (nI m) (nI i) := by
  intro n
  induction n with
  | zero =>
    intro i m hi h
    have e : i = c := by omega
    subst e
    subst h
    exact br_t (nI_le (by omega) (by omega)) hp
  | succ n ih =>
    intro i m hi h
    have skip : (¬ (dt_lf c D P hd s d i ∧ (¬ x = 0 ∨ L i = 0) ∧ dt_bt H B L i r)) → wY_ahead_6 post (nI s) d (nI r) x (nI c) D P H B L hd rd ch (n + 1) (nI m) (nI (i + 1)) := fun z => ih (i + 1) m (by omega) (dt_cf h z)
    have go : dt_lf c D P hd s d i → (¬ x = 0 ∨ L i = 0) → wY_ahead_51 post (wY_ahead_6 post (nI s) d (nI r) x (nI c) D P H B L hd rd ch (n + 1)) (nI s) d (nI r) x (nI m) (nI i) (nI c) D P H B L hd rd ch := by
      intro l o
      unfold wY_ahead_51
      exact dt_yb (by omega) (by omega) hL (fun t => br_f dt_one (nm_r (nI_1 m) (nm_r (nI_1 i) (ih (i + 1) (m + 1) (by omega) (dt_ct h ⟨l, o, t⟩))))) (fun t => br_t rfl (nm_r (nI_1 i) (skip (fun z => t z.2.2))))
    refine br_f (nI_ge (by omega) (by omega)) ⟨vp_in_nI (by omega) (by omega), dt_aq i (by omega) rfl (fun e => ?_) (fun e => nm_r (nI_1 i) (skip (fun z => e z.1.1)))⟩
    refine dt_yf hc hs (by omega) (fun l => br_f dt_one (br_c (fun hx => ⟨vp_in_nI (by omega) (by omega), dt_aq i (by omega) rfl (fun f => ?_) (fun f => ?_)⟩) (fun hx => ?_))) (fun l => br_t rfl (nm_r (nI_1 i) (skip (fun z => l z.1.2))))
    · exact go ⟨e, l⟩ (Or.inr f)
    · exact nm_r (nI_1 i) (skip (fun z => z.2.1.elim (fun a => a hx) f))
    · exact go ⟨e, l⟩ (Or.inl hx)
theorem dt_yh {post : Int32 → Prop} {s r : Nat} {d x : Int32} (hc : c ≤ 40) (hs : s < 2) (hr : r < 40) (hL : ∀ r, L r = 0 ∨ L r = 1) (hp : post (nI (dt_cn (fun q => dt_lf c D P hd s d q ∧ (¬ x = 0 ∨ L q = 0) ∧ dt_bt H B L q r) c))) : wpY_ahead post (nI c, D, P, H, B, L, hd, rd, ch) (nI s) d (nI r) x :=
  ⟨c + 1, dt_yh0 hc hs hr hL hp c 0 0 (by omega) rfl⟩
theorem dt_ybs0 {post : Int32 → Prop} {s : Nat} {d z : Int32} (hc : c ≤ 40) (hs : s < 2) (hL : ∀ r, L r = 0 ∨ L r = 1) (hz : dt_bs (dt_lf c D P hd s d) (dt_bt H B L) c z) (hp : post z) : ∀ n i, i + n = c → (∀ b, b < i → ¬ z = nI b) → wY_best_2 post (nI s) d (nI c) D P H B L hd rd ch (n + 1) (nI i) := by
  intro n
  induction n with
  | zero =>
    intro i hi h
    have e : i = c := by omega
    subst e
    refine br_t (nI_le (by omega) (by omega)) ?_
    rcases hz with ⟨rfl, -⟩ | ⟨b, hb, e, -, -⟩
    · exact hp
    · exact absurd e (h b hb)
  | succ n ih =>
    intro i hi h
    have skip : ¬ z = nI i → wY_best_2 post (nI s) d (nI c) D P H B L hd rd ch (n + 1) (nI (i + 1)) := fun e => ih (i + 1) (by omega) (dt_lts h e)
    have nl : ¬ dt_lf c D P hd s d i → ¬ z = nI i := by
      intro l e
      rcases hz with ⟨f, -⟩ | ⟨b, hb, f, lb, -⟩
      · exact dt_nm (b := i) (by omega) (e.symm.trans f)
      · have := (nI_eq (a := i) (b := b) (by omega) (by omega)).mp (e.symm.trans f)
        subst this
        exact l lb
    refine br_f (nI_ge (by omega) (by omega)) ⟨vp_in_nI (by omega) (by omega), dt_aq i (by omega) rfl (fun e => ?_) (fun e => nm_r (nI_1 i) (skip (nl (fun l => e l.1))))⟩
    refine dt_yf hc hs (by omega) (fun l => br_f dt_one (dt_yh hc hs (by omega) hL ?_)) (fun l => br_t rfl (nm_r (nI_1 i) (skip (nl (fun y => l y.2)))))
    have li : dt_lf c D P hd s d i := ⟨e, l⟩
    rcases hz with ⟨f, no⟩ | ⟨b, hb, f, lb, mb⟩
    · exact absurd li (no i (by omega))
    · by_cases q : i = b
      · subst q
        have c0 : dt_cn (fun q => dt_lf c D P hd s d q ∧ (¬ (1 : Int32) = 0 ∨ L q = 0) ∧ dt_bt H B L q i) c = 0 := (dt_cn_0 c).mpr (fun j hj y => mb j hj y.1 y.2.2)
        rw [c0]
        rw [f] at hp
        exact br_t rfl hp
      · have c1 : ¬ dt_cn (fun q => dt_lf c D P hd s d q ∧ (¬ (1 : Int32) = 0 ∨ L q = 0) ∧ dt_bt H B L q i) c = 0 := by
          intro y
          rcases dt_tot hL q with t | t
          · exact mb i (by omega) li t
          · exact (dt_cn_0 c).mp y b hb ⟨lb, Or.inl dt_one, t⟩
        have c2 := dt_cn_le (fun q => dt_lf c D P hd s d q ∧ (¬ (1 : Int32) = 0 ∨ L q = 0) ∧ dt_bt H B L q i) c
        refine br_f (nI_ne0 (by omega) (by omega)) (nm_r (nI_1 i) (skip ?_))
        rw [f]
        exact fun y => q ((nI_eq (a := b) (b := i) (by omega) (by omega)).mp y).symm
theorem dt_ybs {post : Int32 → Prop} {s : Nat} {d z : Int32} (hc : c ≤ 40) (hs : s < 2) (hL : ∀ r, L r = 0 ∨ L r = 1) (hz : dt_bs (dt_lf c D P hd s d) (dt_bt H B L) c z) (hp : post z) : wpY_best post (nI c, D, P, H, B, L, hd, rd, ch) (nI s) d :=
  ⟨c + 1, dt_ybs0 hc hs hL hz hp c 0 (by omega) (fun b hb => absurd hb (Nat.not_lt_zero b))⟩
theorem dt_ycf {post : Int32 → Prop} {s : Nat} {d : Int32} (hc : c ≤ 40) (hs : s < 2) (h0 : dt_cn (fun q => dt_lf c D P hd s d q ∧ L q = 0) c = 0 → post 0) (h1 : ¬ dt_cn (fun q => dt_lf c D P hd s d q ∧ L q = 0) c = 0 → post (nI (dt_cn (fun q => dt_lf c D P hd s d q ∧ L q = 0) c) - 1)) : ∀ n i m, i + n = c → m = dt_cn (fun q => dt_lf c D P hd s d q ∧ L q = 0) i → wY_conflicts_21 post (nI s) d (nI c) D P H B L hd rd ch (n + 1) (nI m) (nI i) := by
  intro n
  induction n with
  | zero =>
    intro i m hi h
    have e : i = c := by omega
    subst e
    refine br_t (nI_le (by omega) (by omega)) ?_
    have hm := dt_cn_le (fun q => dt_lf i D P hd s d q ∧ L q = 0) i
    by_cases z : m = 0
    · subst z
      exact br_t (nI_le (a := 0) (b := 0) (by omega) (by omega)) (h0 h.symm)
    · rw [← h] at h1 hm
      exact br_f (nI_nle (by omega) (by omega)) (h1 z)
  | succ n ih =>
    intro i m hi h
    have skip : (¬ (dt_lf c D P hd s d i ∧ L i = 0)) → wY_conflicts_21 post (nI s) d (nI c) D P H B L hd rd ch (n + 1) (nI m) (nI (i + 1)) := fun z => ih (i + 1) m (by omega) (dt_cf h z)
    exact br_f (nI_ge (by omega) (by omega)) ⟨vp_in_nI (by omega) (by omega), dt_aq i (by omega) rfl (fun e => dt_yf hc hs (by omega) (fun l => br_f dt_one ⟨vp_in_nI (by omega) (by omega), dt_aq i (by omega) rfl (fun f => nm_r (nI_1 m) (nm_r (nI_1 i) (ih (i + 1) (m + 1) (by omega) (dt_ct h ⟨⟨e, l⟩, f⟩)))) (fun f => nm_r (nI_1 i) (skip (fun z => f z.2)))⟩) (fun l => br_t rfl (nm_r (nI_1 i) (skip (fun z => l z.1.2))))) (fun e => nm_r (nI_1 i) (skip (fun z => e z.1.1)))⟩
theorem dt_ylv {post : Int32 → Prop} {s : Nat} {d : Int32} (hc : c ≤ 40) (hs : s < 2) (hp : post (nI (dt_cn (dt_lf c D P hd s d) c))) : ∀ n i m, i + n = c → m = dt_cn (dt_lf c D P hd s d) i → wY_leaves_21 post (nI s) d (nI c) D P H B L hd rd ch (n + 1) (nI m) (nI i) := by
  intro n
  induction n with
  | zero =>
    intro i m hi h
    have e : i = c := by omega
    subst e
    subst h
    exact br_t (nI_le (by omega) (by omega)) hp
  | succ n ih =>
    intro i m hi h
    have skip : (¬ dt_lf c D P hd s d i) → wY_leaves_21 post (nI s) d (nI c) D P H B L hd rd ch (n + 1) (nI m) (nI (i + 1)) := fun z => ih (i + 1) m (by omega) (dt_cf h z)
    exact br_f (nI_ge (by omega) (by omega)) ⟨vp_in_nI (by omega) (by omega), dt_aq i (by omega) rfl (fun e => dt_yf hc hs (by omega) (fun l => br_f dt_one (nm_r (nI_1 m) (nm_r (nI_1 i) (ih (i + 1) (m + 1) (by omega) (dt_ct h ⟨e, l⟩))))) (fun l => br_t rfl (nm_r (nI_1 i) (skip (fun z => l z.2))))) (fun e => nm_r (nI_1 i) (skip (fun z => e z.1)))⟩
theorem dt_yn0 {post : Int32 → Prop} {x : Int32} (hx : dt_out c x) (h : post 1) : wpY_none post (nI c, D, P, H, B, L, hd, rd, ch) x :=
  hx.elim (fun a => br_t a h) (fun a => br_f a.1 (br_f (Int32.not_lt.mpr a.2) h))
theorem dt_yn {post : Int32 → Prop} {j : Nat} (hc : c ≤ 40) (hj : j < c) (h : post 0) : wpY_none post (nI c, D, P, H, B, L, hd, rd, ch) (nI j) :=
  br_f (nI_pos (by omega)) (br_t (nI_lt hj (by omega)) h)
end
