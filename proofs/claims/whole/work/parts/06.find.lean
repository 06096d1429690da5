section
variable {c : Nat} {D P H B L hd fg rd ch : Nat → Int32}
theorem dt_cf0 {s : Nat} {d v : Int32} (hc : c ≤ 40) (hs : s < 2) (hL : ∀ r, L r = 0 ∨ L r = 1) (hv : ¬ v < 0) : ∀ n i, i + n = c → ∃ z : Int32, (∀ post : Int32 → Prop, post z → wX_conflict_25 post (nI s) d v (nI c) D P H B L hd fg (n + 1) (nI i)) ∧ (∀ post : Int32 → Prop, post z → wY_conflict_19 post (nI s) d v (nI c) D P H B L hd rd ch (n + 1) (nI i)) := by
  intro n
  induction n with
  | zero =>
    intro i hi
    exact ⟨-5, fun post h => br_t (nI_le (by omega) (by omega)) h, fun post h => br_t (nI_le (by omega) (by omega)) h⟩
  | succ n ih =>
    intro i hi
    obtain ⟨z, hX, hY⟩ := ih (i + 1) (by omega)
    have i40 : vp_in (nI i) 40 := vp_in_nI (by omega) (by omega)
    by_cases o : dt_lf c D P hd s d i ∧ L i = 0
    · have ce : dt_cn (fun q => dt_lf c D P hd s d q ∧ (¬ (0 : Int32) = 0 ∨ L q = 0) ∧ dt_bt H B L q i) c = dt_cn (fun q => dt_lf c D P hd s d q ∧ dt_bt H B L q i) c :=
        dt_cn_congr c (fun j hj => ⟨fun y => ⟨y.1, y.2.2⟩, fun y => ⟨y.1, Or.inr (dt_opn o.2 y.2), y.2⟩⟩)
      have cl := dt_cn_le (fun q => dt_lf c D P hd s d q ∧ dt_bt H B L q i) c
      by_cases e : nI (dt_cn (fun q => dt_lf c D P hd s d q ∧ dt_bt H B L q i) c) - 1 = v
      · refine ⟨nI i, fun post h => ?_, fun post h => ?_⟩
        · exact br_f (nI_ge (by omega) (by omega)) (dt_xp hc hs (by omega) (fun _ => br_f dt_one (dt_xcb hc hs (by omega) hL (br_t e h))) (fun y => absurd o y))
        · refine br_f (nI_ge (by omega) (by omega)) ⟨i40, dt_aq i (by omega) rfl (fun _ => dt_yf hc hs (by omega) (fun _ => br_f dt_one ⟨i40, dt_aq i (by omega) rfl (fun _ => dt_yh hc hs (by omega) hL ?_) (fun y => absurd o.2 y)⟩) (fun y => absurd o.1.2 y)) (fun y => absurd o.1.1 y)⟩
          rw [ce]
          refine br_f hv (br_f ?_ (br_t e h))
          by_cases c0 : dt_cn (fun q => dt_lf c D P hd s d q ∧ dt_bt H B L q i) c = 0
          · rw [c0] at e
            exact absurd (e ▸ (by decide : nI 0 - 1 < 0)) hv
          · exact nI_nle (by omega) (by omega)
      · refine ⟨z, fun post h => ?_, fun post h => ?_⟩
        · exact br_f (nI_ge (by omega) (by omega)) (dt_xp hc hs (by omega) (fun _ => br_f dt_one (dt_xcb hc hs (by omega) hL (br_f e (nm_r (nI_1 i) (hX post h))))) (fun y => absurd o y))
        · refine br_f (nI_ge (by omega) (by omega)) ⟨i40, dt_aq i (by omega) rfl (fun _ => dt_yf hc hs (by omega) (fun _ => br_f dt_one ⟨i40, dt_aq i (by omega) rfl (fun _ => dt_yh hc hs (by omega) hL ?_) (fun y => absurd o.2 y)⟩) (fun y => absurd o.1.2 y)) (fun y => absurd o.1.1 y)⟩
          rw [ce]
          exact br_f hv (br_c (fun _ => nm_r (nI_1 i) (hY post h)) (fun _ => br_f e (nm_r (nI_1 i) (hY post h))))
    · refine ⟨z, fun post h => ?_, fun post h => ?_⟩
      · exact br_f (nI_ge (by omega) (by omega)) (dt_xp hc hs (by omega) (fun y => absurd y o) (fun _ => br_t rfl (nm_r (nI_1 i) (hX post h))))
      · exact br_f (nI_ge (by omega) (by omega)) ⟨i40, dt_aq i (by omega) rfl (fun e => dt_yf hc hs (by omega) (fun l => br_f dt_one ⟨i40, dt_aq i (by omega) rfl (fun f => absurd ⟨⟨e, l⟩, f⟩ o) (fun _ => nm_r (nI_1 i) (hY post h))⟩) (fun _ => br_t rfl (nm_r (nI_1 i) (hY post h)))) (fun _ => nm_r (nI_1 i) (hY post h))⟩
theorem dt_cfn {post : Int32 → Prop} {s : Nat} {d v : Int32} (hc : c ≤ 40) (hs : s < 2) (hL : ∀ r, L r = 0 ∨ L r = 1) (hv : v < 0) (h : post (-5)) : ∀ n i, i + n = c → wY_conflict_19 post (nI s) d v (nI c) D P H B L hd rd ch (n + 1) (nI i) := by
  intro n
  induction n with
  | zero =>
    intro i hi
    exact br_t (nI_le (by omega) (by omega)) h
  | succ n ih =>
    intro i hi
    have i40 : vp_in (nI i) 40 := vp_in_nI (by omega) (by omega)
    have t := ih (i + 1) (by omega)
    exact br_f (nI_ge (by omega) (by omega)) ⟨i40, dt_aq i (by omega) rfl (fun e => dt_yf hc hs (by omega) (fun l => br_f dt_one ⟨i40, dt_aq i (by omega) rfl (fun f => dt_yh hc hs (by omega) hL (br_t hv (nm_r (nI_1 i) t))) (fun _ => nm_r (nI_1 i) t)⟩) (fun _ => br_t rfl (nm_r (nI_1 i) t))) (fun _ => nm_r (nI_1 i) t)⟩
def dt_en (t : Nat) : Int32 := nI t - 1
def dt_pp (P : Nat → Int32) : Nat → Nat
  | 0 => 0
  | r + 1 => (P r + 1).toNatClampNeg
def dt_ow (P : Nat → Int32) : Nat → Nat → Nat → Prop
  | 0, _, _ => False
  | n + 1, x, t => ¬ t = 0 ∧ (x = t ∨ dt_ow P n x (dt_pp P t))
theorem dt_enI {t : Nat} (h : t ≤ 40) : (dt_en t).toInt = (t : Int) - 1 := by
  revert t
  decide +kernel
theorem dt_pp_lt {c : Nat} (hc : c ≤ 40) (hP : ∀ r, r < c → P r = -1 ∨ ∃ q, q < r ∧ P r = nI q) {r : Nat} (hr : r < c) : dt_pp P (r + 1) ≤ r ∧ P r = dt_en (dt_pp P (r + 1)) := by
  rcases hP r hr with e | ⟨q, hq, e⟩
  · simp only [dt_pp, e]
    exact ⟨Nat.zero_le r, by decide⟩
  · simp only [dt_pp, e, nI_1, nI_clamp (show q + 1 < 2 ^ 31 by omega)]
    exact ⟨by omega, (nI_pred q).symm⟩
theorem dt_ow_le {c x : Nat} (hc : c ≤ 40) (hP : ∀ r, r < c → P r = -1 ∨ ∃ q, q < r ∧ P r = nI q) : ∀ n t, t ≤ c → dt_ow P n x t → x ≤ t := by
  intro n
  induction n with
  | zero => intro t _ h; exact h.elim
  | succ n ih =>
    intro t ht h
    obtain ⟨h0, h | h⟩ := h
    · omega
    · obtain ⟨r, rfl⟩ : ∃ r, t = r + 1 := ⟨t - 1, by omega⟩
      have a := (dt_pp_lt hc hP (show r < c by omega)).1
      have := ih _ (by omega) h
      omega
theorem dt_ow_st {c x : Nat} (hc : c ≤ 40) (hP : ∀ r, r < c → P r = -1 ∨ ∃ q, q < r ∧ P r = nI q) : ∀ n t, t ≤ n → t ≤ c → (dt_ow P (n + 1) x t ↔ dt_ow P n x t) := by
  intro n
  induction n with
  | zero =>
    intro t h _
    have e : t = 0 := by omega
    subst e
    exact ⟨fun z => absurd rfl z.1, fun z => z.elim⟩
  | succ n ih =>
    intro t h ht
    by_cases e : t = 0
    · exact ⟨fun z => absurd e z.1, fun z => absurd e z.1⟩
    · obtain ⟨r, rfl⟩ : ∃ r, t = r + 1 := ⟨t - 1, by omega⟩
      have a := (dt_pp_lt hc hP (show r < c by omega)).1
      have := ih (dt_pp P (r + 1)) (by omega) (by omega)
      exact ⟨fun z => ⟨z.1, z.2.imp id this.mp⟩, fun z => ⟨z.1, z.2.imp id this.mpr⟩⟩
theorem dt_ow_un {c x r : Nat} (hc : c ≤ 40) (hP : ∀ r, r < c → P r = -1 ∨ ∃ q, q < r ∧ P r = nI q) (hr : r < c) : dt_ow P 40 x (r + 1) ↔ x = r + 1 ∨ dt_ow P 40 x (dt_pp P (r + 1)) := by
  have a := (dt_pp_lt hc hP hr).1
  have e := dt_ow_st (x := x) hc hP 39 (dt_pp P (r + 1)) (by omega) (by omega)
  exact ⟨fun z => z.2.imp id e.mpr, fun z => ⟨by omega, z.imp id e.mp⟩⟩
theorem dt_yow0 {post : Int32 → Prop} {x : Nat} (hc : c ≤ 40) (hx : x < c) (hP : ∀ r, r < c → P r = -1 ∨ ∃ q, q < r ∧ P r = nI q) : ∀ n k t, k + n = 40 → t ≤ c → (dt_ow P n (x + 1) t → post 1) → (¬ dt_ow P n (x + 1) t → post 0) → wY_onWay_5 post (nI x) (nI c) D P H B L hd rd ch (n + 1) (dt_en t) (nI k) := by
  intro n
  induction n with
  | zero =>
    intro k t hk ht _ hF
    exact br_t (nI_le (a := 40) (by omega) (by omega)) (hF (fun z => z))
  | succ n ih =>
    intro k t hk ht hT hF
    refine br_f (nI_ge (b := 40) (by omega) (by omega)) ?_
    by_cases e : t = 0
    · subst e
      exact br_t (by decide) (hF (fun z => z.1 rfl))
    · obtain ⟨r, rfl⟩ : ∃ r, t = r + 1 := ⟨t - 1, by omega⟩
      have a := dt_pp_lt hc hP (show r < c by omega)
      have ee : dt_en (r + 1) = nI r := nI_pred r
      rw [ee]
      refine br_f (nI_pos (by omega)) ?_
      by_cases q : r = x
      · subst q
        exact br_t rfl (hT ⟨e, Or.inl rfl⟩)
      · refine br_f (fun z => q ((nI_eq (by omega) (by omega)).mp z)) ⟨vp_in_nI (by omega) (by omega), nm_r (e' := dt_en (dt_pp P (r + 1))) (by rw [nI_clamp (by omega)]; exact a.2) (nm_r (nI_1 k) (ih (k + 1) (dt_pp P (r + 1)) (by omega) (by omega) (fun z => hT ⟨e, Or.inr z⟩) (fun z => hF (fun y => y.2.elim (fun w => q (by omega)) z))))⟩
theorem dt_yow {post : Int32 → Prop} {x r : Nat} (hc : c ≤ 40) (hx : x < c) (hr : r < c) (hP : ∀ r, r < c → P r = -1 ∨ ∃ q, q < r ∧ P r = nI q) (hT : dt_ow P 40 (x + 1) (r + 1) → post 1) (hF : ¬ dt_ow P 40 (x + 1) (r + 1) → post 0) : wpY_onWay post (nI c, D, P, H, B, L, hd, rd, ch) (nI x) (nI r) := by
  have t := dt_yow0 (post := post) (D := D) (H := H) (B := B) (L := L) (hd := hd) (rd := rd) (ch := ch) hc hx hP 40 0 (r + 1) (by omega) (by omega) hT hF
  rw [show dt_en (r + 1) = nI r from nI_pred r] at t
  exact ⟨41, t⟩
def dt_an (m : Nat) : Int32 := if m = 0 then -5 else nI (m - 1)
theorem dt_xcm0 {post : Int32 → Prop} {a b : Nat} (hc : c ≤ 40) (hP : ∀ r, r < c → P r = -1 ∨ ∃ q, q < r ∧ P r = nI q) (hp : ∀ m, m ≤ c → (∀ x, dt_ow P 40 x m ↔ dt_ow P 40 x a ∧ dt_ow P 40 x b) → post (dt_an m)) : ∀ n k l r, k + n = 80 → l + r ≤ n → l ≤ c → r ≤ c → (∀ x, dt_ow P 40 x l ∧ dt_ow P 40 x r ↔ dt_ow P 40 x a ∧ dt_ow P 40 x b) → wX_common_27 post (nI c) D P H B L hd fg (n + 1) (dt_en l) (dt_en r) (nI k) := by
  have fin : ∀ l, l ≤ c → (∀ x, dt_ow P 40 x l ∧ dt_ow P 40 x l ↔ dt_ow P 40 x a ∧ dt_ow P 40 x b) → wX_common_71 post (dt_en l) (nI c) D P H B L hd fg := by
    intro l hl h
    have t := hp l hl (fun x => ⟨fun z => (h x).mp ⟨z, z⟩, fun z => ((h x).mpr z).1⟩)
    by_cases e : l = 0
    · subst e
      exact br_t (by decide) t
    · obtain ⟨r, rfl⟩ : ∃ r, l = r + 1 := ⟨l - 1, by omega⟩
      rw [show dt_en (r + 1) = nI r from nI_pred r]
      exact br_f (dt_nm (by omega)) t
  intro n
  induction n with
  | zero =>
    intro k l r hk hlr hl hr h
    have e : l = r := by omega
    subst e
    exact br_t (nI_le (a := 80) (by omega) (by omega)) (fin l hl h)
  | succ n ih =>
    intro k l r hk hlr hl hr h
    refine br_f (nI_ge (b := 80) (by omega) (by omega)) ?_
    by_cases e : l = r
    · subst e
      exact br_t rfl (fin l hl h)
    · have el := dt_enI (t := l) (by omega)
      have er := dt_enI (t := r) (by omega)
      refine br_f (fun z => e (by rw [← Int32.toInt_inj, el, er] at z; omega)) ?_
      by_cases g : l < r
      · refine br_t (by rw [Int32.le_iff_toInt_le, el, er]; omega) ?_
        obtain ⟨q, rfl⟩ : ∃ q, r = q + 1 := ⟨r - 1, by omega⟩
        have p := dt_pp_lt hc hP (show q < c by omega)
        refine ⟨?_, nm_r (e' := dt_en (dt_pp P (q + 1))) ?_ (nm_r (nI_1 k) (ih (k + 1) l (dt_pp P (q + 1)) (by omega) (by omega) hl (by omega) (fun x => ?_)))⟩
        · rw [show dt_en (q + 1) = nI q from nI_pred q]
          exact vp_in_nI (by omega) (by omega)
        · rw [show dt_en (q + 1) = nI q from nI_pred q, nI_clamp (by omega)]
          exact p.2
        · rw [← h x, dt_ow_un hc hP (show q < c by omega)]
          refine ⟨fun z => ⟨z.1, Or.inr z.2⟩, fun z => ⟨z.1, z.2.elim (fun y => ?_) id⟩⟩
          have := dt_ow_le hc hP 40 l hl z.1
          omega
      · refine br_f (by rw [Int32.le_iff_toInt_le, el, er]; omega) ?_
        obtain ⟨q, rfl⟩ : ∃ q, l = q + 1 := ⟨l - 1, by omega⟩
        have p := dt_pp_lt hc hP (show q < c by omega)
        refine ⟨?_, nm_r (e' := dt_en (dt_pp P (q + 1))) ?_ (nm_r (nI_1 k) (ih (k + 1) (dt_pp P (q + 1)) r (by omega) (by omega) (by omega) hr (fun x => ?_)))⟩
        · rw [show dt_en (q + 1) = nI q from nI_pred q]
          exact vp_in_nI (by omega) (by omega)
        · rw [show dt_en (q + 1) = nI q from nI_pred q, nI_clamp (by omega)]
          exact p.2
        · rw [← h x, dt_ow_un hc hP (show q < c by omega)]
          refine ⟨fun z => ⟨Or.inr z.1, z.2⟩, fun z => ⟨z.1.elim (fun y => ?_) id, z.2⟩⟩
          have := dt_ow_le hc hP 40 r hr z.2
          omega
theorem dt_ycm0 {post : Int32 → Prop} {a b m : Nat} (hc : c ≤ 40) (ha : a < c) (hb : b < c) (hm : m ≤ c) (hP : ∀ r, r < c → P r = -1 ∨ ∃ q, q < r ∧ P r = nI q) (hx : ∀ x, dt_ow P 40 x m ↔ dt_ow P 40 x (a + 1) ∧ dt_ow P 40 x (b + 1)) (hp : post (dt_an m)) : ∀ n i z, i + n = c → (m ≤ i → z = dt_an m) → wY_common_25 post (nI a) (nI b) (nI c) D P H B L hd rd ch (n + 1) z (nI i) := by
  intro n
  induction n with
  | zero =>
    intro i z hi h
    refine br_t (nI_le (by omega) (by omega)) ?_
    rw [h (by omega)]
    exact hp
  | succ n ih =>
    intro i z hi h
    have skip : ¬ (dt_ow P 40 (i + 1) (a + 1) ∧ dt_ow P 40 (i + 1) (b + 1)) → wY_common_25 post (nI a) (nI b) (nI c) D P H B L hd rd ch (n + 1) z (nI (i + 1)) := by
      intro y
      refine ih (i + 1) z (by omega) (fun g => ?_)
      by_cases e : m = i + 1
      · subst e
        exact absurd ((hx (i + 1)).mp ⟨by omega, Or.inl rfl⟩) y
      · exact h (by omega)
    refine br_f (nI_ge (by omega) (by omega)) (dt_yow hc (by omega) ha hP (fun oa => br_f dt_one (dt_yow hc (by omega) hb hP (fun ob => br_f dt_one (nm_r (nI_1 i) (ih (i + 1) (nI i) (by omega) (fun g => ?_)))) (fun ob => br_t rfl (nm_r (nI_1 i) (skip (fun y => ob y.2)))))) (fun oa => br_t rfl (nm_r (nI_1 i) (skip (fun y => oa y.1)))))
    have := dt_ow_le hc hP 40 m hm ((hx (i + 1)).mpr ⟨oa, ob⟩)
    have e : m = i + 1 := by omega
    subst e
    rfl
end
