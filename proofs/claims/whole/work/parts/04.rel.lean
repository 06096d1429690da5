def dt_Q (c : Nat) (P L hd fg rd : Nat → Int32) : Prop :=
  c ≤ 40 ∧ (∀ r, r < c → P r = -1 ∨ ∃ q, q < r ∧ P r = nI q) ∧ (∀ r, L r = 0 ∨ L r = 1) ∧ (∀ p, (hd p = 0 ∧ rd p = 0 ∧ fg p = 0) ∨ (hd p = 1 ∧ ((rd p = 1 ∧ fg p = 0) ∨ (rd p = 0 ∧ fg p = 1)))) ∧ (∀ s r, s < 2 → c ≤ r → r < 40 → hd (s * 40 + r) = 0)
def dt_C (c : Nat) (hd ch : Nat → Int32) : Prop := ∀ s, s < 2 → ch s = nI (dt_cn (fun r => ¬ hd (s * 40 + r) = 0) c)
def i_Rel (k : Nat) (u : SX) (v : SY) : Prop :=
  ∃ (c : Nat) (D P H B L hd fg rd ch : Nat → Int32), u = (nI c, D, P, H, B, L, hd, fg) ∧ v = (nI c, D, P, H, B, L, hd, rd, ch) ∧ dt_Q c P L hd fg rd ∧ dt_C c hd ch
theorem i_up {k : Nat} {u : SX} {v : SY} (h : i_Rel k u v) : i_Rel (k + 5) u v := h
theorem i_vc0 : wpX_init (fun u => wpY_init (fun v => i_Rel 0 u v)) :=
  ⟨0, _, _, _, _, _, _, _, _, _, rfl, rfl, ⟨by omega, fun r hr => absurd hr (Nat.not_lt_zero r), fun _ => Or.inl rfl, fun _ => Or.inl ⟨rfl, rfl, rfl⟩, fun _ _ _ _ _ => rfl⟩, fun _ _ => rfl⟩
def dt_bad (x : Int32) : Prop := x < 0 ∨ (¬ x < 0 ∧ 2 ≤ x ∧ ¬ x ≤ 1)
theorem dt_site (x : Int32) : dt_bad x ∨ ∃ s, s < 2 ∧ x = nI s := by
  by_cases h0 : x < 0
  · exact Or.inl (Or.inl h0)
  · rcases pk_ix x (n := 2) (by omega) with h | h | h
    · exact absurd h h0
    · exact Or.inl (Or.inr ⟨h0, h, fun z => absurd (Int32.le_trans (show (2 : Int32) ≤ x from h) z) (by decide)⟩)
    · exact Or.inr h
theorem dt_s2 {s : Nat} (hs : s < 2) : ¬ nI s < 0 ∧ ¬ (2 : Int32) ≤ nI s ∧ nI s ≤ 1 :=
  ⟨nI_pos (by omega), nI_ge (b := 2) hs (by omega), nI_le (b := 1) (by omega) (by omega)⟩
theorem dt_xs0 {post : Int32 → Prop} {x : Int32} (hx : dt_bad x) (h : post 0) : wpX_isSite post x :=
  hx.elim (fun a => br_t a h) (fun a => br_f a.1 (br_t a.2.1 h))
theorem dt_xs {post : Int32 → Prop} {s : Nat} (hs : s < 2) (h : post 1) : wpX_isSite post (nI s) :=
  br_f (dt_s2 hs).1 (br_f (dt_s2 hs).2.1 h)
theorem dt_ys0 {post : Int32 → Prop} {v : SY} {x : Int32} (hx : dt_bad x) (h : post 1) : wpY_badSite post v x :=
  hx.elim (fun a => br_t a h) (fun a => br_f a.1 (br_f a.2.2 h))
theorem dt_ys {post : Int32 → Prop} {v : SY} {s : Nat} (hs : s < 2) (h : post 0) : wpY_badSite post v (nI s) :=
  br_f (dt_s2 hs).1 (br_t (dt_s2 hs).2.2 h)
def dt_bdc (x : Int32) : Prop := x < 0 ∨ (¬ x < 0 ∧ ¬ x < 4 ∧ ¬ x ≤ 3)
theorem dt_doc (x : Int32) : dt_bdc x ∨ (¬ x < 0 ∧ x < 4 ∧ x ≤ 3) := by
  by_cases h0 : x < 0
  · exact Or.inl (Or.inl h0)
  · rcases pk_ix x (n := 4) (by omega) with h | h | ⟨j, hj, rfl⟩
    · exact absurd h h0
    · exact Or.inl (Or.inr ⟨h0, Int32.not_lt.mpr h, fun z => absurd (Int32.le_trans (show (4 : Int32) ≤ x from h) z) (by decide)⟩)
    · exact Or.inr ⟨h0, nI_lt (b := 4) hj (by omega), nI_le (b := 3) (by omega) (by omega)⟩
def dt_ref (e v1 v2 : Int32) : Prop := (∀ post : Int32 → Prop, post e → wpX_refusalToLook post v1 v2) ∧ (∀ (v : SY) (post : Int32 → Prop), post e → wpY_refusal post v v1 v2)
theorem dt_refc (v1 v2 : Int32) : (∃ e, ¬ e = 0 ∧ ¬ 0 ≤ e ∧ dt_ref e v1 v2) ∨ ∃ s, s < 2 ∧ v1 = nI s ∧ dt_ref 0 v1 v2 := by
  rcases dt_site v1 with b | ⟨s, hs, rfl⟩
  · refine Or.inl ⟨-1, by decide, by decide, fun post h => ?_, fun v post h => ?_⟩
    · unfold wpX_refusalToLook
      exact dt_xs0 b (br_t rfl h)
    · unfold wpY_refusal
      exact dt_ys0 b (br_f dt_one h)
  · rcases dt_doc v2 with b | g
    · refine Or.inl ⟨-2, by decide, by decide, fun post h => ?_, fun v post h => ?_⟩
      · unfold wpX_refusalToLook
        exact dt_xs hs (br_f dt_one (b.elim (fun a => br_t a h) (fun a => br_f a.1 (br_f a.2.1 h))))
      · unfold wpY_refusal
        exact dt_ys hs (br_t rfl (b.elim (fun a => br_t a (br_f dt_one h)) (fun a => br_f a.1 (br_f a.2.2 (br_f dt_one h)))))
    · refine Or.inr ⟨s, hs, rfl, fun post h => ?_, fun v post h => ?_⟩
      · unfold wpX_refusalToLook
        exact dt_xs hs (br_f dt_one (br_f g.1 (br_t g.2.1 h)))
      · unfold wpY_refusal
        exact dt_ys hs (br_t rfl (br_f g.1 (br_t g.2.2 (br_t rfl h))))
section
variable {c : Nat} {D P H B L hd fg rd ch : Nat → Int32}
theorem dt_xw45 {post : Int32 → SX → Prop} {s : Nat} {body del dep : Int32} (hc : c < 40) (hs : s < 2) (h01 : del = 0 ∨ del = 1) (h : post (nI c) (nI (c + 1), D, P, upd H c dep, upd B c body, upd L c del, upd hd (s * 40 + c) 1, fg)) : wX_write_45 post (nI s) body del (nI c) dep (nI c) (nI c) D P H B L hd fg := by
  have ec : (nI c).toNatClampNeg = c := nI_clamp (by omega)
  have ep : (nI s * 40 + nI c).toNatClampNeg = s * 40 + c := by rw [dt_pl]; exact nI_clamp (by omega)
  have ic : vp_in (nI c) 40 := vp_in_nI hc (by omega)
  exact ⟨ic, nm_r (by rw [ec]) ⟨ic, nm_r (by rw [ec]) ⟨ic, nm_r (by rw [ec, dt_vb h01]) ⟨pk_in (s * 40 + c) 80 (by omega) (dt_pl s c), nm_r (by rw [ep, dt_vb1]) (nm_r (nI_1 c) h)⟩⟩⟩⟩
theorem dt_xw {post : Int32 → SX → Prop} {s : Nat} {d par body del dep : Int32} (hc : c < 40) (hs : s < 2) (h01 : del = 0 ∨ del = 1) (hp : (par = -1 ∧ dep = 1) ∨ ∃ q, q < c ∧ par = nI q ∧ dep = H q + 1) (h : post (nI c) (nI (c + 1), upd D c d, upd P c par, upd H c dep, upd B c body, upd L c del, upd hd (s * 40 + c) 1, fg)) : wpX_write post (nI c, D, P, H, B, L, hd, fg) (nI s) d par body del := by
  have ec : (nI c).toNatClampNeg = c := nI_clamp (by omega)
  have ic : vp_in (nI c) 40 := vp_in_nI hc (by omega)
  refine ⟨ic, nm_r (by rw [ec]) ⟨ic, nm_r (by rw [ec]) ?_⟩⟩
  rcases hp with ⟨rfl, rfl⟩ | ⟨q, hq, rfl, rfl⟩
  · exact br_t rfl (dt_xw45 hc hs h01 h)
  · refine br_f (dt_nm (by omega)) ⟨vp_in_nI (by omega) (by omega), ?_⟩
    rw [nI_clamp (show q < 2 ^ 31 by omega)]
    exact dt_xw45 hc hs h01 h
theorem dt_yw54 {post : Int32 → SY → Prop} {s : Nat} {body del dep : Int32} (hc : c < 40) (hs : s < 2) (h01 : del = 0 ∨ del = 1) {f : Int32} (h : post (nI c) (f, D, P, upd H c dep, upd B c body, upd L c del, upd hd (s * 40 + c) 1, upd rd (s * 40 + c) 1, upd ch s (ch s + 1))) : wY_add_54 post (nI s) body del (nI c) dep (nI c) f D P H B L hd rd ch := by
  have ec : (nI c).toNatClampNeg = c := nI_clamp (by omega)
  have es : (nI s).toNatClampNeg = s := nI_clamp (by omega)
  have ep : (nI s * 40 + nI c).toNatClampNeg = s * 40 + c := by rw [dt_pl]; exact nI_clamp (by omega)
  have ic : vp_in (nI c) 40 := vp_in_nI hc (by omega)
  have is : vp_in (nI s) 2 := vp_in_nI hs (by omega)
  have ip : vp_in (nI s * 40 + nI c) 80 := pk_in (s * 40 + c) 80 (by omega) (dt_pl s c)
  exact ⟨ic, nm_r (by rw [ec]) ⟨ic, nm_r (by rw [ec]) ⟨ic, nm_r (by rw [ec, dt_vb h01]) ⟨ip, nm_r (by rw [ep, dt_vb1]) ⟨ip, nm_r (by rw [ep, dt_vb1]) ⟨is, is, nm_r (by rw [es]) h⟩⟩⟩⟩⟩⟩
theorem dt_yw {post : Int32 → SY → Prop} {s : Nat} {d par body del dep : Int32} (hc : c < 40) (hs : s < 2) (h01 : del = 0 ∨ del = 1) (hp : (par = -1 ∧ dep = 1) ∨ ∃ q, q < c ∧ par = nI q ∧ dep = H q + 1) (h : post (nI c) (nI (c + 1), upd D c d, upd P c par, upd H c dep, upd B c body, upd L c del, upd hd (s * 40 + c) 1, upd rd (s * 40 + c) 1, upd ch s (ch s + 1))) : wpY_add post (nI c, D, P, H, B, L, hd, rd, ch) (nI s) d par body del := by
  have ec : (nI c).toNatClampNeg = c := nI_clamp (by omega)
  have ic : vp_in (nI c) 40 := vp_in_nI hc (by omega)
  refine nm_r (nI_1 c) ⟨ic, nm_r (by rw [ec]) ⟨ic, nm_r (by rw [ec]) ?_⟩⟩
  rcases hp with ⟨rfl, rfl⟩ | ⟨q, hq, rfl, rfl⟩
  · exact br_f (by decide) (dt_yw54 hc hs h01 h)
  · refine br_t (nI_pos' (by omega)) ⟨vp_in_nI (by omega) (by omega), ?_⟩
    rw [nI_clamp (show q < 2 ^ 31 by omega)]
    exact dt_yw54 hc hs h01 h
theorem dt_Qw {s : Nat} {par del : Int32} (hc : c < 40) (hs : s < 2) (h01 : del = 0 ∨ del = 1) (hp : par = -1 ∨ ∃ q, q < c ∧ par = nI q) (h : dt_Q c P L hd fg rd) : dt_Q (c + 1) (upd P c par) (upd L c del) (upd hd (s * 40 + c) 1) fg (upd rd (s * 40 + c) 1) := by
  obtain ⟨h1, h2, h3, h4, h5⟩ := h
  refine ⟨by omega, fun r hr => ?_, fun r => ?_, fun p => ?_, fun s' r hs' hr hr' => ?_⟩
  · by_cases e : r = c
    · subst e
      rw [pk_us]
      exact hp
    · rw [pk_un e]
      exact h2 r (by omega)
  · by_cases e : r = c
    · subst e
      rw [pk_us]
      exact h01
    · rw [pk_un e]
      exact h3 r
  · by_cases e : p = s * 40 + c
    · subst e
      rw [pk_us, pk_us]
      have h0 := h5 s c hs (by omega) hc
      rcases h4 (s * 40 + c) with z | z
      · exact Or.inr ⟨rfl, Or.inl ⟨rfl, z.2.2⟩⟩
      · rw [h0] at z
        exact absurd z.1.symm dt_one
    · rw [pk_un e, pk_un e]
      exact h4 p
  · rw [pk_un (by omega)]
    exact h5 s' r hs' (by omega) hr'
theorem dt_Cw {s : Nat} (hc : c < 40) (hs : s < 2) (h0 : ∀ t, t < 2 → hd (t * 40 + c) = 0) (h : dt_C c hd ch) : dt_C (c + 1) (upd hd (s * 40 + c) 1) (upd ch s (ch s + 1)) := by
  intro s' hs'
  by_cases e : s' = s
  · subst e
    rw [pk_us, h s' hs, nI_1]
    refine congrArg nI (dt_ct ?_ ?_)
    · refine dt_cn_congr c (fun i hi => ?_)
      rw [pk_un (by omega)]
    · rw [pk_us]
      exact dt_one
  · rw [pk_un e, h s' hs']
    refine congrArg nI (dt_cf ?_ ?_)
    · refine dt_cn_congr c (fun i hi => ?_)
      rw [pk_un (by omega)]
    · rw [pk_un (by omega), h0 s' hs']
      exact fun z => z rfl
end
