section
theorem pk_us {f : Nat → Int32} {k : Nat} {x : Int32} : upd f k x k = x := if_pos rfl
theorem pk_un {f : Nat → Int32} {k j : Nat} {x : Int32} (h : j ≠ k) : upd f k x j = f j := if_neg h
theorem pk_sub {a b : Nat} (h : b ≤ a) : nI a - nI b = nI (a - b) := by
  obtain ⟨c, rfl⟩ : ∃ c, a = c + b := ⟨a - b, by omega⟩
  rw [← nI_add, Int32.add_sub_cancel, Nat.add_sub_cancel]
theorem pk_mul (a b : Nat) : nI a * nI b = nI (a * b) := (Int32.ofNat_mul a b).symm
theorem pk_ix (x : Int32) {n : Nat} (hn : n < 2 ^ 31) : x < 0 ∨ nI n ≤ x ∨ ∃ j : Nat, j < n ∧ x = nI j := by
  by_cases h : x < 0
  · exact Or.inl h
  · obtain ⟨j, hj, rfl⟩ := nI_of h
    by_cases h2 : j < n
    · exact Or.inr (Or.inr ⟨j, h2, rfl⟩)
    · exact Or.inr (Or.inl (nI_le (by omega) hj))
theorem pk_in {x : Int32} (n N : Nat) (h : n < N) (hx : x = nI n := by rfl) (hN : N < 2 ^ 31 := by omega) : vp_in x N := by
  subst hx
  exact vp_in_nI h hN
theorem dt_one : ¬ (1 : Int32) = 0 := by decide
theorem dt_vb {z : Int32} (h : z = 0 ∨ z = 1) : vp_nar .boolean z = z := by rcases h with rfl | rfl <;> decide
theorem dt_vb1 : vp_nar .boolean 1 = 1 := by decide
theorem dt_vb0 : vp_nar .boolean 0 = 0 := by decide
theorem dt_nb {z : Int32} (h : z = 0 ∨ z = 1) : narrow .boolean (.int z) = .int z := by rcases h with rfl | rfl <;> rfl
theorem dt_pl (s r : Nat) : nI s * 40 + nI r = nI (s * 40 + r) := by
  rw [show (40 : Int32) = nI 40 from rfl, pk_mul, nI_add]
theorem dt_nm {b : Nat} (hb : b < 2 ^ 31) : ¬ nI b = -1 := fun e => nI_pos hb (by rw [e]; decide)
theorem dt_aq {a : Nat → Int32} {v x : Int32} {A B : Prop} (j : Nat) (hj : j < 2 ^ 31) (hx : x = nI j) (f : a j = v → A) (g : ¬ a j = v → B) : (a x.toNatClampNeg = v → A) ∧ (¬ a x.toNatClampNeg = v → B) := by
  subst hx
  rw [nI_clamp hj]
  exact ⟨f, g⟩
theorem dt_ap {a : Nat → Int32} {x : Int32} {A : Int32 → Prop} (j : Nat) (hj : j < 2 ^ 31) (hx : x = nI j) (f : A (a j)) : A (a x.toNatClampNeg) := by
  subst hx
  rw [nI_clamp hj]
  exact f
noncomputable def dt_cn (p : Nat → Prop) : Nat → Nat
  | 0 => 0
  | n + 1 => dt_cn p n + @ite Nat (p n) (Classical.propDecidable (p n)) 1 0
theorem dt_ct {p : Nat → Prop} {m n : Nat} (hm : m = dt_cn p n) (h : p n) : m + 1 = dt_cn p (n + 1) := by
  simp [dt_cn, h, hm]
theorem dt_cf {p : Nat → Prop} {m n : Nat} (hm : m = dt_cn p n) (h : ¬ p n) : m = dt_cn p (n + 1) := by
  simp [dt_cn, h, hm]
theorem dt_cn_le (p : Nat → Prop) : ∀ n, dt_cn p n ≤ n := by
  intro n
  induction n with
  | zero => exact Nat.le_refl 0
  | succ n ih =>
    by_cases h : p n
    · rw [← dt_ct rfl h]; omega
    · rw [← dt_cf rfl h]; omega
theorem dt_cn_congr {p q : Nat → Prop} : ∀ n, (∀ i, i < n → (p i ↔ q i)) → dt_cn p n = dt_cn q n := by
  intro n
  induction n with
  | zero => intro _; rfl
  | succ n ih =>
    intro h
    have e := ih (fun i hi => h i (by omega))
    by_cases hp : p n
    · rw [← dt_ct rfl hp, ← dt_ct rfl ((h n (by omega)).mp hp), e]
    · rw [← dt_cf rfl hp, ← dt_cf rfl (fun z => hp ((h n (by omega)).mpr z)), e]
theorem dt_cn_0 {p : Nat → Prop} : ∀ n, dt_cn p n = 0 ↔ ∀ i, i < n → ¬ p i := by
  intro n
  induction n with
  | zero => exact ⟨fun _ i hi => absurd hi (Nat.not_lt_zero i), fun _ => rfl⟩
  | succ n ih =>
    by_cases hp : p n
    · rw [← dt_ct rfl hp]
      exact ⟨fun h => by omega, fun h => absurd hp (h n (by omega))⟩
    · rw [← dt_cf rfl hp, ih]
      refine ⟨fun h i hi => ?_, fun h i hi => h i (by omega)⟩
      by_cases e : i = n
      · rw [e]; exact hp
      · exact h i (by omega)
theorem dt_cn_up {p q : Nat → Prop} {a : Nat} (hp : ¬ p a) (hq : q a) (h : ∀ i, i ≠ a → (p i ↔ q i)) : ∀ n, a < n → dt_cn q n = dt_cn p n + 1 := by
  intro n
  induction n with
  | zero => intro h0; omega
  | succ n ih =>
    intro ha
    by_cases e : a = n
    · subst e
      rw [← dt_ct rfl hq, ← dt_cf rfl hp, dt_cn_congr a (fun i hi => (h i (by omega)))]
    · have e2 := ih (by omega)
      by_cases hn : p n
      · rw [← dt_ct rfl hn, ← dt_ct rfl ((h n (fun z => e z.symm)).mp hn), e2]
      · rw [← dt_cf rfl hn, ← dt_cf rfl (fun z => hn ((h n (fun z => e z.symm)).mpr z)), e2]
def dt_kid (c : Nat) (P hd : Nat → Int32) (s r : Nat) : Prop := ∃ k, k < c ∧ P k = nI r ∧ ¬ hd (s * 40 + k) = 0
def dt_yl (c : Nat) (P hd : Nat → Int32) (s r : Nat) : Prop := ¬ hd (s * 40 + r) = 0 ∧ ¬ dt_kid c P hd s r
def dt_lf (c : Nat) (D P hd : Nat → Int32) (s : Nat) (d : Int32) (r : Nat) : Prop := D r = d ∧ dt_yl c P hd s r
def dt_bt (H B L : Nat → Int32) (a b : Nat) : Prop :=
  (¬ L a = L b ∧ ¬ L b = 0) ∨ (L a = L b ∧ ((¬ H a = H b ∧ ¬ H a ≤ H b) ∨ (H a = H b ∧ ((¬ B a = B b ∧ ¬ B a ≤ B b) ∨ (B a = B b ∧ b < a)))))
theorem dt_01 {z : Int32} (h : z = 0 ∨ z = 1) : z.toInt = 0 ∨ z.toInt = 1 := by rcases h with rfl | rfl <;> decide
theorem dt_z0 : (0 : Int32).toInt = 0 := rfl
theorem dt_irr {H B L : Nat → Int32} (a : Nat) : ¬ dt_bt H B L a a := by
  simp [dt_bt]
theorem dt_tot {H B L : Nat → Int32} (hL : ∀ r, L r = 0 ∨ L r = 1) {a b : Nat} (h : a ≠ b) : dt_bt H B L a b ∨ dt_bt H B L b a := by
  have h1 := dt_01 (hL a)
  have h2 := dt_01 (hL b)
  simp only [dt_bt, Int32.le_iff_toInt_le, ← Int32.toInt_inj, dt_z0]
  omega
theorem dt_tr {H B L : Nat → Int32} (hL : ∀ r, L r = 0 ∨ L r = 1) {a b e : Nat} (h : dt_bt H B L a b) (h' : dt_bt H B L b e) : dt_bt H B L a e := by
  have h1 := dt_01 (hL a)
  have h2 := dt_01 (hL b)
  have h3 := dt_01 (hL e)
  simp only [dt_bt, Int32.le_iff_toInt_le, ← Int32.toInt_inj, dt_z0] at h h' ⊢
  omega
theorem dt_opn {H B L : Nat → Int32} {a b : Nat} (hb : L b = 0) (h : dt_bt H B L a b) : L a = 0 := by
  rcases h with ⟨-, h⟩ | ⟨h, -⟩
  · exact absurd hb h
  · rw [h]; exact hb
def dt_bi (lf : Nat → Prop) (bt : Nat → Nat → Prop) (i : Nat) (z : Int32) : Prop :=
  (z = -1 ∧ ∀ j, j < i → ¬ lf j) ∨ ∃ b, b < i ∧ z = nI b ∧ lf b ∧ ∀ j, j < i → lf j → j = b ∨ bt b j
def dt_bs (lf : Nat → Prop) (bt : Nat → Nat → Prop) (c : Nat) (z : Int32) : Prop :=
  (z = -1 ∧ ∀ j, j < c → ¬ lf j) ∨ ∃ b, b < c ∧ z = nI b ∧ lf b ∧ ∀ j, j < c → lf j → ¬ bt j b
theorem dt_fin {H B L : Nat → Int32} (hL : ∀ r, L r = 0 ∨ L r = 1) {lf : Nat → Prop} {c : Nat} {z : Int32} (h : dt_bi lf (dt_bt H B L) c z) : dt_bs lf (dt_bt H B L) c z := by
  rcases h with h | ⟨b, hb, e, l, m⟩
  · exact Or.inl h
  · refine Or.inr ⟨b, hb, e, l, fun j hj lj t => ?_⟩
    rcases m j hj lj with rfl | t2
    · exact dt_irr _ t
    · exact dt_irr _ (dt_tr hL t t2)
theorem dt_lts {i : Nat} {p : Nat → Prop} (h : ∀ a, a < i → p a) (hi : p i) (a : Nat) (ha : a < i + 1) : p a := by
  by_cases e : a = i
  · rw [e]; exact hi
  · exact h a (by omega)
theorem dt_bi_f {lf : Nat → Prop} {bt : Nat → Nat → Prop} {i : Nat} {z : Int32} (h : dt_bi lf bt i z) (hi : ¬ lf i) : dt_bi lf bt (i + 1) z := by
  rcases h with ⟨e, n⟩ | ⟨b, hb, e, l, m⟩
  · exact Or.inl ⟨e, dt_lts n hi⟩
  · exact Or.inr ⟨b, by omega, e, l, dt_lts m (fun z => absurd z hi)⟩
theorem dt_bi_n {lf : Nat → Prop} {bt : Nat → Nat → Prop} {i : Nat} (n : ∀ j, j < i → ¬ lf j) (hi : lf i) : dt_bi lf bt (i + 1) (nI i) :=
  Or.inr ⟨i, by omega, rfl, hi, dt_lts (fun j hj z => absurd z (n j hj)) (fun _ => Or.inl rfl)⟩
theorem dt_bi_o {H B L : Nat → Int32} (hL : ∀ r, L r = 0 ∨ L r = 1) {lf : Nat → Prop} {i b : Nat} (hb : b < i) (l : lf b) (m : ∀ j, j < i → lf j → j = b ∨ dt_bt H B L b j) (t : ¬ dt_bt H B L i b) : dt_bi lf (dt_bt H B L) (i + 1) (nI b) := by
  refine Or.inr ⟨b, by omega, rfl, l, dt_lts m (fun _ => Or.inr ?_)⟩
  rcases dt_tot hL (a := i) (b := b) (by omega) with h | h
  · exact absurd h t
  · exact h
theorem dt_bi_t {H B L : Nat → Int32} (hL : ∀ r, L r = 0 ∨ L r = 1) {lf : Nat → Prop} {i b : Nat} (hi : lf i) (m : ∀ j, j < i → lf j → j = b ∨ dt_bt H B L b j) (t : dt_bt H B L i b) : dt_bi lf (dt_bt H B L) (i + 1) (nI i) := by
  refine Or.inr ⟨i, by omega, rfl, hi, dt_lts (fun j hj lj => Or.inr ?_) (fun _ => Or.inl rfl)⟩
  rcases m j hj lj with rfl | h
  · exact t
  · exact dt_tr hL t h
end
section
section
variable {c : Nat} {D P H B L hd fg : Nat → Int32}
def dt_out (c : Nat) (x : Int32) : Prop := x < 0 ∨ (¬ x < 0 ∧ nI c ≤ x)
theorem dt_ix (x : Int32) {c : Nat} (hc : c ≤ 40) : dt_out c x ∨ ∃ j, j < c ∧ x = nI j := by
  by_cases h0 : x < 0
  · exact Or.inl (Or.inl h0)
  · rcases pk_ix x (n := c) (by omega) with h | h | h
    · exact absurd h h0
    · exact Or.inl (Or.inr ⟨h0, h⟩)
    · exact Or.inr h
theorem dt_xe0 {post : Int32 → Prop} {x : Int32} (hx : dt_out c x) (h : post 0) : wpX_exists post (nI c, D, P, H, B, L, hd, fg) x :=
  hx.elim (fun a => br_t a h) (fun a => br_f a.1 (br_t a.2 h))
theorem dt_xe1 {post : Int32 → Prop} {j : Nat} (hc : c ≤ 40) (hj : j < c) (h : post 1) : wpX_exists post (nI c, D, P, H, B, L, hd, fg) (nI j) :=
  br_f (nI_pos (by omega)) (br_f (nI_ge hj (by omega)) h)
theorem dt_xh0 {post : Int32 → Prop} {x y : Int32} (hx : dt_out c x) (h : post 0) : wpX_has post (nI c, D, P, H, B, L, hd, fg) y x := by
  unfold wpX_has
  dsimp only
  exact dt_xe0 hx (br_t rfl h)
theorem dt_xh {post : Int32 → Prop} {s j : Nat} (hc : c ≤ 40) (hs : s < 2) (hj : j < c) (hT : ¬ hd (s * 40 + j) = 0 → post 1) (hF : hd (s * 40 + j) = 0 → post 0) : wpX_has post (nI c, D, P, H, B, L, hd, fg) (nI s) (nI j) := by
  unfold wpX_has
  dsimp only
  exact dt_xe1 hc hj (br_f dt_one ⟨pk_in (s * 40 + j) 80 (by omega) (dt_pl s j), dt_aq (s * 40 + j) (by omega) (dt_pl s j) hF hT⟩)
theorem dt_xo0 {post : Int32 → Prop} {x y d : Int32} (hx : dt_out c x) (h : post 0) : wpX_hasOf post (nI c, D, P, H, B, L, hd, fg) y d x := by
  unfold wpX_hasOf
  dsimp only
  exact dt_xh0 hx (br_t rfl h)
theorem dt_xo {post : Int32 → Prop} {s j : Nat} {d : Int32} (hc : c ≤ 40) (hs : s < 2) (hj : j < c) (hT : ¬ hd (s * 40 + j) = 0 → D j = d → post 1) (hF : ¬ (¬ hd (s * 40 + j) = 0 ∧ D j = d) → post 0) : wpX_hasOf post (nI c, D, P, H, B, L, hd, fg) (nI s) d (nI j) := by
  unfold wpX_hasOf
  dsimp only
  exact dt_xh hc hs hj (fun h => br_f dt_one ⟨vp_in_nI (by omega) (by omega), dt_aq j (by omega) rfl (fun e => hT h e) (fun e => hF (fun z => e z.2))⟩) (fun h => br_t rfl (hF (fun z => z.1 h)))
theorem dt_xc0 {post : Int32 → Prop} {x y : Int32} (hx : dt_out c x) (h : post 0) : wpX_canRead post (nI c, D, P, H, B, L, hd, fg) y x := by
  unfold wpX_canRead
  dsimp only
  exact dt_xh0 hx (br_t rfl h)
theorem dt_xc {post : Int32 → Prop} {s j : Nat} (hc : c ≤ 40) (hs : s < 2) (hj : j < c) (hT : ¬ hd (s * 40 + j) = 0 → fg (s * 40 + j) = 0 → post 1) (hF : ¬ (¬ hd (s * 40 + j) = 0 ∧ fg (s * 40 + j) = 0) → post 0) : wpX_canRead post (nI c, D, P, H, B, L, hd, fg) (nI s) (nI j) := by
  unfold wpX_canRead
  dsimp only
  exact dt_xh hc hs hj (fun h => br_f dt_one ⟨pk_in (s * 40 + j) 80 (by omega) (dt_pl s j), dt_aq (s * 40 + j) (by omega) (dt_pl s j) (fun e => hT h e) (fun e => hF (fun z => e z.2))⟩) (fun h => br_t rfl (hF (fun z => z.1 h)))
theorem dt_xk0 {post : Int32 → Prop} {s r : Nat} (hc : c ≤ 40) (hs : s < 2) (hT : dt_kid c P hd s r → post 1) (hF : ¬ dt_kid c P hd s r → post 0) : ∀ d i, i + d = c → (∀ k, k < i → ¬ (P k = nI r ∧ ¬ hd (s * 40 + k) = 0)) → wX_hasChild_2 post (nI s) (nI r) (nI c) D P H B L hd fg (d + 1) (nI i) := by
  intro d
  induction d with
  | zero =>
    intro i hi hn
    refine br_t (nI_le (by omega) (by omega)) (hF ?_)
    rintro ⟨k, hk, a, b⟩
    exact hn k (by omega) ⟨a, b⟩
  | succ d ih =>
    intro i hi hn
    refine br_f (nI_ge (by omega) (by omega)) ⟨vp_in_nI (by omega) (by omega), dt_aq i (by omega) rfl (fun e => ?_) (fun e => ?_)⟩
    · exact dt_xh hc hs (by omega) (fun h => br_f dt_one (hT ⟨i, by omega, e, h⟩)) (fun h => br_t rfl (nm_r (nI_1 i) (ih (i + 1) (by omega) (dt_lts hn (fun z => z.2 h)))))
    · exact nm_r (nI_1 i) (ih (i + 1) (by omega) (dt_lts hn (fun z => e z.1)))
theorem dt_xk {post : Int32 → Prop} {s r : Nat} (hc : c ≤ 40) (hs : s < 2) (hT : dt_kid c P hd s r → post 1) (hF : ¬ dt_kid c P hd s r → post 0) : wpX_hasChild post (nI c, D, P, H, B, L, hd, fg) (nI s) (nI r) :=
  ⟨c + 1, dt_xk0 hc hs hT hF c 0 (by omega) (fun k hk => absurd hk (Nat.not_lt_zero k))⟩
theorem dt_xl0 {post : Int32 → Prop} {x y d : Int32} (hx : dt_out c x) (h : post 0) : wpX_isLeafOf post (nI c, D, P, H, B, L, hd, fg) y d x := by
  unfold wpX_isLeafOf
  dsimp only
  exact dt_xo0 hx (br_t rfl h)
theorem dt_xl {post : Int32 → Prop} {s j : Nat} {d : Int32} (hc : c ≤ 40) (hs : s < 2) (hj : j < c) (hT : dt_lf c D P hd s d j → post 1) (hF : ¬ dt_lf c D P hd s d j → post 0) : wpX_isLeafOf post (nI c, D, P, H, B, L, hd, fg) (nI s) d (nI j) := by
  unfold wpX_isLeafOf
  dsimp only
  exact dt_xo hc hs hj (fun h e => br_f dt_one (dt_xk hc hs (fun k => br_f dt_one (hF (fun l => l.2.2 k))) (fun k => br_t rfl (hT ⟨e, h, k⟩)))) (fun h => br_t rfl (hF (fun l => h ⟨l.2.1, l.1⟩)))
theorem dt_xp0 {post : Int32 → Prop} {x y d : Int32} (hx : dt_out c x) (h : post 0) : wpX_isOpenLeafOf post (nI c, D, P, H, B, L, hd, fg) y d x := by
  unfold wpX_isOpenLeafOf
  dsimp only
  exact dt_xl0 hx (br_t rfl h)
theorem dt_xp {post : Int32 → Prop} {s j : Nat} {d : Int32} (hc : c ≤ 40) (hs : s < 2) (hj : j < c) (hT : dt_lf c D P hd s d j ∧ L j = 0 → post 1) (hF : ¬ (dt_lf c D P hd s d j ∧ L j = 0) → post 0) : wpX_isOpenLeafOf post (nI c, D, P, H, B, L, hd, fg) (nI s) d (nI j) := by
  unfold wpX_isOpenLeafOf
  dsimp only
  exact dt_xl hc hs hj (fun h => br_f dt_one ⟨vp_in_nI (by omega) (by omega), dt_aq j (by omega) rfl (fun e => hT ⟨h, e⟩) (fun e => hF (fun z => e z.2))⟩) (fun h => br_t rfl (hF (fun z => h z.1)))
theorem dt_xb {post : Int32 → Prop} {a b : Nat} (ha : a < 40) (hb : b < 40) (hL : ∀ r, L r = 0 ∨ L r = 1) (hT : dt_bt H B L a b → post 1) (hF : ¬ dt_bt H B L a b → post 0) : wpX_beats post (nI c, D, P, H, B, L, hd, fg) (nI a) (nI b) := by
  have ia : vp_in (nI a) 40 := vp_in_nI ha (by omega)
  have ib : vp_in (nI b) 40 := vp_in_nI hb (by omega)
  simp only [wpX_beats, nI_clamp (show a < 2 ^ 31 by omega), nI_clamp (show b < 2 ^ 31 by omega), nI_leI (show a < 2 ^ 31 by omega) (show b < 2 ^ 31 by omega)]
  refine ⟨ia, ib, fun e1 => ⟨ia, ib, fun e2 => ⟨ia, ib, fun e3 => ⟨fun h => hF ?_, fun h => hT ?_⟩, fun e3 => ⟨ia, ib, fun h => hF ?_, fun h => hT ?_⟩⟩, fun e2 => ⟨ia, ib, fun h => hF ?_, fun h => hT ?_⟩⟩, fun e1 => ⟨ib, dt_nb (hL b), ?_⟩⟩
  · simp [dt_bt, e1, e2, e3, h]
  · exact Or.inr ⟨e1, Or.inr ⟨e2, Or.inr ⟨e3, by omega⟩⟩⟩
  · simp only [dt_bt]; grind
  · exact Or.inr ⟨e1, Or.inr ⟨e2, Or.inl ⟨e3, h⟩⟩⟩
  · simp only [dt_bt]; grind
  · exact Or.inr ⟨e1, Or.inl ⟨e2, h⟩⟩
  · rcases hL b with h | h
    · rw [h]
      refine hF ?_
      simp only [dt_bt]; grind
    · rw [h]
      exact hT (Or.inl ⟨e1, by rw [h]; exact dt_one⟩)
theorem dt_xbl0 {post : Int32 → Prop} {s : Nat} {d : Int32} (hc : c ≤ 40) (hs : s < 2) (hL : ∀ r, L r = 0 ∨ L r = 1) (hp : ∀ z, dt_bs (dt_lf c D P hd s d) (dt_bt H B L) c z → post z) : ∀ n i z, i + n = c → dt_bi (dt_lf c D P hd s d) (dt_bt H B L) i z → wX_bestLeaf_5 post (nI s) d (nI c) D P H B L hd fg (n + 1) z (nI i) := by
  intro n
  induction n with
  | zero =>
    intro i z hi h
    have e : i = c := by omega
    subst e
    exact br_t (nI_le (by omega) (by omega)) (hp z (dt_fin hL h))
  | succ n ih =>
    intro i z hi h
    refine br_f (nI_ge (by omega) (by omega)) (dt_xl hc hs (by omega) (fun l => br_f dt_one ?_) (fun l => br_t rfl (nm_r (nI_1 i) (ih (i + 1) z (by omega) (dt_bi_f h l)))))
    rcases h with ⟨rfl, m⟩ | ⟨b, hb, rfl, lb, m⟩
    · exact br_t rfl (nm_r (nI_1 i) (ih (i + 1) (nI i) (by omega) (dt_bi_n m l)))
    · exact br_f (dt_nm (by omega)) (dt_xb (by omega) (by omega) hL (fun t => br_f dt_one (nm_r (nI_1 i) (ih (i + 1) (nI i) (by omega) (dt_bi_t hL l m t)))) (fun t => br_t rfl (nm_r (nI_1 i) (ih (i + 1) (nI b) (by omega) (dt_bi_o hL hb lb m t)))))
theorem dt_xbl {post : Int32 → Prop} {s : Nat} {d : Int32} (hc : c ≤ 40) (hs : s < 2) (hL : ∀ r, L r = 0 ∨ L r = 1) (hp : ∀ z, dt_bs (dt_lf c D P hd s d) (dt_bt H B L) c z → post z) : wpX_bestLeaf post (nI c, D, P, H, B, L, hd, fg) (nI s) d :=
  ⟨c + 1, dt_xbl0 hc hs hL hp c 0 (-1) (by omega) (Or.inl ⟨rfl, fun j hj => absurd hj (Nat.not_lt_zero j)⟩)⟩
theorem dt_xcb0 {post : Int32 → Prop} {s r : Nat} {d : Int32} (hc : c ≤ 40) (hs : s < 2) (hr : r < 40) (hL : ∀ r, L r = 0 ∨ L r = 1) (hp : post (nI (dt_cn (fun q => dt_lf c D P hd s d q ∧ dt_bt H B L q r) c))) : ∀ n i m, i + n = c → m = dt_cn (fun q => dt_lf c D P hd s d q ∧ dt_bt H B L q r) i → wX_countBetter_6 post (nI s) d (nI r) (nI c) D P H B L hd fg (n + 1) (nI m) (nI i) := by
  intro n
  induction n with
  | zero =>
    intro i m hi h
    have e : i = c := by omega
    subst e
    subst h
    exact br_t (nI_le (by omega) (by omega)) hp
  | succ n ih =>
    intro i m hi h
    exact br_f (nI_ge (by omega) (by omega)) (dt_xl hc hs (by omega) (fun l => br_f dt_one (dt_xb (by omega) (by omega) hL (fun t => br_f dt_one (nm_r (nI_1 m) (nm_r (nI_1 i) (ih (i + 1) (m + 1) (by omega) (dt_ct h ⟨l, t⟩))))) (fun t => br_t rfl (nm_r (nI_1 i) (ih (i + 1) m (by omega) (dt_cf h (fun z => t z.2))))))) (fun l => br_t rfl (nm_r (nI_1 i) (ih (i + 1) m (by omega) (dt_cf h (fun z => l z.1))))))
theorem dt_xcb {post : Int32 → Prop} {s r : Nat} {d : Int32} (hc : c ≤ 40) (hs : s < 2) (hr : r < 40) (hL : ∀ r, L r = 0 ∨ L r = 1) (hp : post (nI (dt_cn (fun q => dt_lf c D P hd s d q ∧ dt_bt H B L q r) c))) : wpX_countBetter post (nI c, D, P, H, B, L, hd, fg) (nI s) d (nI r) :=
  ⟨c + 1, dt_xcb0 hc hs hr hL hp c 0 0 (by omega) rfl⟩
theorem dt_xcf {post : Int32 → Prop} {s : Nat} {d : Int32} (hc : c ≤ 40) (hs : s < 2) (h0 : dt_cn (fun q => dt_lf c D P hd s d q ∧ L q = 0) c = 0 → post 0) (h1 : ¬ dt_cn (fun q => dt_lf c D P hd s d q ∧ L q = 0) c = 0 → post (nI (dt_cn (fun q => dt_lf c D P hd s d q ∧ L q = 0) c) - 1)) : ∀ n i m, i + n = c → m = dt_cn (fun q => dt_lf c D P hd s d q ∧ L q = 0) i → wX_conflicts_18 post (nI s) d (nI c) D P H B L hd fg (n + 1) (nI m) (nI i) := by
  intro n
  induction n with
  | zero =>
    intro i m hi h
    have e : i = c := by omega
    subst e
    refine br_t (nI_le (by omega) (by omega)) ?_
    have hm := dt_cn_le (fun q => dt_lf i D P hd s d q ∧ L q = 0) i
    by_cases z : m = 0
    · subst z
      exact br_t rfl (h0 h.symm)
    · rw [← h] at h1 hm
      exact br_f (nI_ne0 (by omega) (by omega)) (h1 z)
  | succ n ih =>
    intro i m hi h
    exact br_f (nI_ge (by omega) (by omega)) (dt_xp hc hs (by omega) (fun l => br_f dt_one (nm_r (nI_1 m) (nm_r (nI_1 i) (ih (i + 1) (m + 1) (by omega) (dt_ct h l))))) (fun l => br_t rfl (nm_r (nI_1 i) (ih (i + 1) m (by omega) (dt_cf h l)))))
theorem dt_xlv {post : Int32 → Prop} {s : Nat} {d : Int32} (hc : c ≤ 40) (hs : s < 2) (hp : post (nI (dt_cn (dt_lf c D P hd s d) c))) : ∀ n i m, i + n = c → m = dt_cn (dt_lf c D P hd s d) i → wX_leaves_18 post (nI s) d (nI c) D P H B L hd fg (n + 1) (nI m) (nI i) := by
  intro n
  induction n with
  | zero =>
    intro i m hi h
    have e : i = c := by omega
    subst e
    subst h
    exact br_t (nI_le (by omega) (by omega)) hp
  | succ n ih =>
    intro i m hi h
    exact br_f (nI_ge (by omega) (by omega)) (dt_xl hc hs (by omega) (fun l => br_f dt_one (nm_r (nI_1 m) (nm_r (nI_1 i) (ih (i + 1) (m + 1) (by omega) (dt_ct h l))))) (fun l => br_t rfl (nm_r (nI_1 i) (ih (i + 1) m (by omega) (dt_cf h l)))))
theorem dt_xch {post : Int32 → Prop} {s : Nat} (hc : c ≤ 40) (hs : s < 2) (hp : post (nI (dt_cn (fun r => ¬ hd (s * 40 + r) = 0) c))) : ∀ n i m, i + n = c → m = dt_cn (fun r => ¬ hd (s * 40 + r) = 0) i → wX_changes_13 post (nI s) (nI c) D P H B L hd fg (n + 1) (nI m) (nI i) := by
  intro n
  induction n with
  | zero =>
    intro i m hi h
    have e : i = c := by omega
    subst e
    subst h
    exact br_t (nI_le (by omega) (by omega)) hp
  | succ n ih =>
    intro i m hi h
    exact br_f (nI_ge (by omega) (by omega)) (dt_xh hc hs (by omega) (fun l => br_f dt_one (nm_r (nI_1 m) (nm_r (nI_1 i) (ih (i + 1) (m + 1) (by omega) (dt_ct h l))))) (fun l => br_t rfl (nm_r (nI_1 i) (ih (i + 1) m (by omega) (dt_cf h (fun z => z l))))))
end
end
section
section
variable {c : Nat} {D P H B L hd rd ch : Nat → Int32}
theorem dt_ya0 {post : Int32 → Prop} {x y : Int32} (hx : dt_out c x) (h : post 0) : wpY_at post (nI c, D, P, H, B, L, hd, rd, ch) y x :=
  hx.elim (fun a => br_t a h) (fun a => br_f a.1 (br_t a.2 h))
theorem dt_ya {post : Int32 → Prop} {s j : Nat} (hc : c ≤ 40) (hs : s < 2) (hj : j < c) (hT : ¬ hd (s * 40 + j) = 0 → post 1) (hF : hd (s * 40 + j) = 0 → post 0) : wpY_at post (nI c, D, P, H, B, L, hd, rd, ch) (nI s) (nI j) :=
  br_f (nI_pos (by omega)) (br_f (nI_ge hj (by omega)) ⟨pk_in (s * 40 + j) 80 (by omega) (dt_pl s j), dt_aq (s * 40 + j) (by omega) (dt_pl s j) hF hT⟩)
theorem dt_yk0 {post : Int32 → Prop} {s r : Nat} (hc : c ≤ 40) (hs : s < 2) (hr : r < c) (hT : dt_yl c P hd s r → post 1) (hF : ¬ dt_yl c P hd s r → post 0) : ∀ d i, i + d = c → (∀ k, k < i → ¬ (P k = nI r ∧ ¬ hd (s * 40 + k) = 0)) → wY_leaf_2 post (nI s) (nI r) (nI c) D P H B L hd rd ch (d + 1) (nI i) := by
  intro d
  induction d with
  | zero =>
    intro i hi hn
    refine br_t (nI_le (by omega) (by omega)) (dt_ya hc hs hr (fun h => ⟨rfl, hT ⟨h, ?_⟩⟩) (fun h => ⟨rfl, hF (fun z => z.1 h)⟩))
    rintro ⟨k, hk, a, b⟩
    exact hn k (by omega) ⟨a, b⟩
  | succ d ih =>
    intro i hi hn
    refine br_f (nI_ge (by omega) (by omega)) ⟨pk_in (s * 40 + i) 80 (by omega) (dt_pl s i), dt_aq (s * 40 + i) (by omega) (dt_pl s i) (fun e => ?_) (fun e => ⟨vp_in_nI (by omega) (by omega), dt_aq i (by omega) rfl (fun f => ?_) (fun f => ?_)⟩)⟩
    · exact nm_r (nI_1 i) (ih (i + 1) (by omega) (dt_lts hn (fun z => z.2 e)))
    · exact hF (fun z => z.2 ⟨i, by omega, f, e⟩)
    · exact nm_r (nI_1 i) (ih (i + 1) (by omega) (dt_lts hn (fun z => f z.1)))
theorem dt_yf {post : Int32 → Prop} {s r : Nat} (hc : c ≤ 40) (hs : s < 2) (hr : r < c) (hT : dt_yl c P hd s r → post 1) (hF : ¬ dt_yl c P hd s r → post 0) : wpY_leaf post (nI c, D, P, H, B, L, hd, rd, ch) (nI s) (nI r) :=
  ⟨c + 1, dt_yk0 hc hs hr hT hF c 0 (by omega) (fun k hk => absurd hk (Nat.not_lt_zero k))⟩
theorem dt_yb {post : Int32 → Prop} {a b : Nat} (ha : a < 40) (hb : b < 40) (hL : ∀ r, L r = 0 ∨ L r = 1) (hT : dt_bt H B L a b → post 1) (hF : ¬ dt_bt H B L a b → post 0) : wpY_better post (nI c, D, P, H, B, L, hd, rd, ch) (nI a) (nI b) := by
  have ia : vp_in (nI a) 40 := vp_in_nI ha (by omega)
  have ib : vp_in (nI b) 40 := vp_in_nI hb (by omega)
  simp only [wpY_better, nI_clamp (show a < 2 ^ 31 by omega), nI_clamp (show b < 2 ^ 31 by omega), nI_leI (show a < 2 ^ 31 by omega) (show b < 2 ^ 31 by omega)]
  refine ⟨ia, ib, fun e1 => ⟨ia, ib, fun e2 => ⟨ia, ib, fun e3 => ⟨fun h => hF ?_, fun h => hT ?_⟩, fun e3 => ⟨ia, ib, fun h => hF ?_, fun h => hT ?_⟩⟩, fun e2 => ⟨ia, ib, fun h => hF ?_, fun h => hT ?_⟩⟩, fun e1 => ⟨ib, dt_nb (hL b), ?_⟩⟩
  · simp [dt_bt, e1, e2, e3, h]
  · exact Or.inr ⟨e1, Or.inr ⟨e2, Or.inr ⟨e3, by omega⟩⟩⟩
  · simp only [dt_bt]; grind
  · exact Or.inr ⟨e1, Or.inr ⟨e2, Or.inl ⟨e3, h⟩⟩⟩
  · simp only [dt_bt]; grind
  · exact Or.inr ⟨e1, Or.inl ⟨e2, h⟩⟩
  · rcases hL b with h | h
    · rw [h]
      refine hF ?_
      simp only [dt_bt]; grind
    · rw [h]
      exact hT (Or.inl ⟨e1, by rw [h]; exact dt_one⟩)
theorem dt_yh0 {post : Int32 → Prop} {s r : Nat} {d x : Int32} (hc : c ≤ 40) (hs : s < 2) (hr : r < 40) (hL : ∀ r, L r = 0 ∨ L r = 1) (hp : post (nI (dt_cn (fun q => dt_lf c D P hd s d q ∧ (¬ x = 0 ∨ L q = 0) ∧ dt_bt H B L q r) c))) : ∀ n i m, i + n = c → m = dt_cn (fun q => dt_lf c D P hd s d q ∧ (¬ x = 0 ∨ L q = 0) ∧ dt_bt H B L q r) i → wY_ahead_6 post (nI s) d (nI r) x (nI c) D P H B L hd rd ch (n + 1) (nI m) (nI i) := by
  intro n
  induction n with
  | zero =>
    intro i m hi h
    have e : i = c := by omega
    subst e
    subst h
    exact br_t (nI_le (by omega) (by omega)) hp
  | succ n ih =>
    intro i m hi h
    have skip : (¬ (dt_lf c D P hd s d i ∧ (¬ x = 0 ∨ L i = 0) ∧ dt_bt H B L i r)) → wY_ahead_6 post (nI s) d (nI r) x (nI c) D P H B L hd rd ch (n + 1) (nI m) (nI (i + 1)) := fun z => ih (i + 1) m (by omega) (dt_cf h z)
    have go : dt_lf c D P hd s d i → (¬ x = 0 ∨ L i = 0) → wY_ahead_51 post (wY_ahead_6 post (nI s) d (nI r) x (nI c) D P H B L hd rd ch (n + 1)) (nI s) d (nI r) x (nI m) (nI i) (nI c) D P H B L hd rd ch := by
      intro l o
      unfold wY_ahead_51
      exact dt_yb (by omega) (by omega) hL (fun t => br_f dt_one (nm_r (nI_1 m) (nm_r (nI_1 i) (ih (i + 1) (m + 1) (by omega) (dt_ct h ⟨l, o, t⟩))))) (fun t => br_t rfl (nm_r (nI_1 i) (skip (fun z => t z.2.2))))
    refine br_f (nI_ge (by omega) (by omega)) ⟨vp_in_nI (by omega) (by omega), dt_aq i (by omega) rfl (fun e => ?_) (fun e => nm_r (nI_1 i) (skip (fun z => e z.1.1)))⟩
    refine dt_yf hc hs (by omega) (fun l => br_f dt_one (br_c (fun hx => ⟨vp_in_nI (by omega) (by omega), dt_aq i (by omega) rfl (fun f => ?_) (fun f => ?_)⟩) (fun hx => ?_))) (fun l => br_t rfl (nm_r (nI_1 i) (skip (fun z => l z.1.2))))
    · exact go ⟨e, l⟩ (Or.inr f)
    · exact nm_r (nI_1 i) (skip (fun z => z.2.1.elim (fun a => a hx) f))
    · exact go ⟨e, l⟩ (Or.inl hx)
theorem dt_yh {post : Int32 → Prop} {s r : Nat} {d x : Int32} (hc : c ≤ 40) (hs : s < 2) (hr : r < 40) (hL : ∀ r, L r = 0 ∨ L r = 1) (hp : post (nI (dt_cn (fun q => dt_lf c D P hd s d q ∧ (¬ x = 0 ∨ L q = 0) ∧ dt_bt H B L q r) c))) : wpY_ahead post (nI c, D, P, H, B, L, hd, rd, ch) (nI s) d (nI r) x :=
  ⟨c + 1, dt_yh0 hc hs hr hL hp c 0 0 (by omega) rfl⟩
theorem dt_ybs0 {post : Int32 → Prop} {s : Nat} {d z : Int32} (hc : c ≤ 40) (hs : s < 2) (hL : ∀ r, L r = 0 ∨ L r = 1) (hz : dt_bs (dt_lf c D P hd s d) (dt_bt H B L) c z) (hp : post z) : ∀ n i, i + n = c → (∀ b, b < i → ¬ z = nI b) → wY_best_2 post (nI s) d (nI c) D P H B L hd rd ch (n + 1) (nI i) := by
  intro n
  induction n with
  | zero =>
    intro i hi h
    have e : i = c := by omega
    subst e
    refine br_t (nI_le (by omega) (by omega)) ?_
    rcases hz with ⟨rfl, -⟩ | ⟨b, hb, e, -, -⟩
    · exact hp
    · exact absurd e (h b hb)
  | succ n ih =>
    intro i hi h
    have skip : ¬ z = nI i → wY_best_2 post (nI s) d (nI c) D P H B L hd rd ch (n + 1) (nI (i + 1)) := fun e => ih (i + 1) (by omega) (dt_lts h e)
    have nl : ¬ dt_lf c D P hd s d i → ¬ z = nI i := by
      intro l e
      rcases hz with ⟨f, -⟩ | ⟨b, hb, f, lb, -⟩
      · exact dt_nm (b := i) (by omega) (e.symm.trans f)
      · have := (nI_eq (a := i) (b := b) (by omega) (by omega)).mp (e.symm.trans f)
        subst this
        exact l lb
    refine br_f (nI_ge (by omega) (by omega)) ⟨vp_in_nI (by omega) (by omega), dt_aq i (by omega) rfl (fun e => ?_) (fun e => nm_r (nI_1 i) (skip (nl (fun l => e l.1))))⟩
    refine dt_yf hc hs (by omega) (fun l => br_f dt_one (dt_yh hc hs (by omega) hL ?_)) (fun l => br_t rfl (nm_r (nI_1 i) (skip (nl (fun y => l y.2)))))
    have li : dt_lf c D P hd s d i := ⟨e, l⟩
    rcases hz with ⟨f, no⟩ | ⟨b, hb, f, lb, mb⟩
    · exact absurd li (no i (by omega))
    · by_cases q : i = b
      · subst q
        have c0 : dt_cn (fun q => dt_lf c D P hd s d q ∧ (¬ (1 : Int32) = 0 ∨ L q = 0) ∧ dt_bt H B L q i) c = 0 := (dt_cn_0 c).mpr (fun j hj y => mb j hj y.1 y.2.2)
        rw [c0]
        rw [f] at hp
        exact br_t rfl hp
      · have c1 : ¬ dt_cn (fun q => dt_lf c D P hd s d q ∧ (¬ (1 : Int32) = 0 ∨ L q = 0) ∧ dt_bt H B L q i) c = 0 := by
          intro y
          rcases dt_tot hL q with t | t
          · exact mb i (by omega) li t
          · exact (dt_cn_0 c).mp y b hb ⟨lb, Or.inl dt_one, t⟩
        have c2 := dt_cn_le (fun q => dt_lf c D P hd s d q ∧ (¬ (1 : Int32) = 0 ∨ L q = 0) ∧ dt_bt H B L q i) c
        refine br_f (nI_ne0 (by omega) (by omega)) (nm_r (nI_1 i) (skip ?_))
        rw [f]
        exact fun y => q ((nI_eq (a := b) (b := i) (by omega) (by omega)).mp y).symm
theorem dt_ybs {post : Int32 → Prop} {s : Nat} {d z : Int32} (hc : c ≤ 40) (hs : s < 2) (hL : ∀ r, L r = 0 ∨ L r = 1) (hz : dt_bs (dt_lf c D P hd s d) (dt_bt H B L) c z) (hp : post z) : wpY_best post (nI c, D, P, H, B, L, hd, rd, ch) (nI s) d :=
  ⟨c + 1, dt_ybs0 hc hs hL hz hp c 0 (by omega) (fun b hb => absurd hb (Nat.not_lt_zero b))⟩
theorem dt_ycf {post : Int32 → Prop} {s : Nat} {d : Int32} (hc : c ≤ 40) (hs : s < 2) (h0 : dt_cn (fun q => dt_lf c D P hd s d q ∧ L q = 0) c = 0 → post 0) (h1 : ¬ dt_cn (fun q => dt_lf c D P hd s d q ∧ L q = 0) c = 0 → post (nI (dt_cn (fun q => dt_lf c D P hd s d q ∧ L q = 0) c) - 1)) : ∀ n i m, i + n = c → m = dt_cn (fun q => dt_lf c D P hd s d q ∧ L q = 0) i → wY_conflicts_21 post (nI s) d (nI c) D P H B L hd rd ch (n + 1) (nI m) (nI i) := by
  intro n
  induction n with
  | zero =>
    intro i m hi h
    have e : i = c := by omega
    subst e
    refine br_t (nI_le (by omega) (by omega)) ?_
    have hm := dt_cn_le (fun q => dt_lf i D P hd s d q ∧ L q = 0) i
    by_cases z : m = 0
    · subst z
      exact br_t (nI_le (a := 0) (b := 0) (by omega) (by omega)) (h0 h.symm)
    · rw [← h] at h1 hm
      exact br_f (nI_nle (by omega) (by omega)) (h1 z)
  | succ n ih =>
    intro i m hi h
    have skip : (¬ (dt_lf c D P hd s d i ∧ L i = 0)) → wY_conflicts_21 post (nI s) d (nI c) D P H B L hd rd ch (n + 1) (nI m) (nI (i + 1)) := fun z => ih (i + 1) m (by omega) (dt_cf h z)
    exact br_f (nI_ge (by omega) (by omega)) ⟨vp_in_nI (by omega) (by omega), dt_aq i (by omega) rfl (fun e => dt_yf hc hs (by omega) (fun l => br_f dt_one ⟨vp_in_nI (by omega) (by omega), dt_aq i (by omega) rfl (fun f => nm_r (nI_1 m) (nm_r (nI_1 i) (ih (i + 1) (m + 1) (by omega) (dt_ct h ⟨⟨e, l⟩, f⟩)))) (fun f => nm_r (nI_1 i) (skip (fun z => f z.2)))⟩) (fun l => br_t rfl (nm_r (nI_1 i) (skip (fun z => l z.1.2))))) (fun e => nm_r (nI_1 i) (skip (fun z => e z.1.1)))⟩
theorem dt_ylv {post : Int32 → Prop} {s : Nat} {d : Int32} (hc : c ≤ 40) (hs : s < 2) (hp : post (nI (dt_cn (dt_lf c D P hd s d) c))) : ∀ n i m, i + n = c → m = dt_cn (dt_lf c D P hd s d) i → wY_leaves_21 post (nI s) d (nI c) D P H B L hd rd ch (n + 1) (nI m) (nI i) := by
  intro n
  induction n with
  | zero =>
    intro i m hi h
    have e : i = c := by omega
    subst e
    subst h
    exact br_t (nI_le (by omega) (by omega)) hp
  | succ n ih =>
    intro i m hi h
    have skip : (¬ dt_lf c D P hd s d i) → wY_leaves_21 post (nI s) d (nI c) D P H B L hd rd ch (n + 1) (nI m) (nI (i + 1)) := fun z => ih (i + 1) m (by omega) (dt_cf h z)
    exact br_f (nI_ge (by omega) (by omega)) ⟨vp_in_nI (by omega) (by omega), dt_aq i (by omega) rfl (fun e => dt_yf hc hs (by omega) (fun l => br_f dt_one (nm_r (nI_1 m) (nm_r (nI_1 i) (ih (i + 1) (m + 1) (by omega) (dt_ct h ⟨e, l⟩))))) (fun l => br_t rfl (nm_r (nI_1 i) (skip (fun z => l z.2))))) (fun e => nm_r (nI_1 i) (skip (fun z => e z.1)))⟩
theorem dt_yn0 {post : Int32 → Prop} {x : Int32} (hx : dt_out c x) (h : post 1) : wpY_none post (nI c, D, P, H, B, L, hd, rd, ch) x :=
  hx.elim (fun a => br_t a h) (fun a => br_f a.1 (br_f (Int32.not_lt.mpr a.2) h))
theorem dt_yn {post : Int32 → Prop} {j : Nat} (hc : c ≤ 40) (hj : j < c) (h : post 0) : wpY_none post (nI c, D, P, H, B, L, hd, rd, ch) (nI j) :=
  br_f (nI_pos (by omega)) (br_t (nI_lt hj (by omega)) h)
end
end
section
def dt_Q (c : Nat) (P L hd fg rd : Nat → Int32) : Prop :=
  c ≤ 40 ∧ (∀ r, r < c → P r = -1 ∨ ∃ q, q < r ∧ P r = nI q) ∧ (∀ r, L r = 0 ∨ L r = 1) ∧ (∀ p, (hd p = 0 ∧ rd p = 0 ∧ fg p = 0) ∨ (hd p = 1 ∧ ((rd p = 1 ∧ fg p = 0) ∨ (rd p = 0 ∧ fg p = 1)))) ∧ (∀ s r, s < 2 → c ≤ r → r < 40 → hd (s * 40 + r) = 0)
def dt_C (c : Nat) (hd ch : Nat → Int32) : Prop := ∀ s, s < 2 → ch s = nI (dt_cn (fun r => ¬ hd (s * 40 + r) = 0) c)
def i_Rel (k : Nat) (u : SX) (v : SY) : Prop :=
  ∃ (c : Nat) (D P H B L hd fg rd ch : Nat → Int32), u = (nI c, D, P, H, B, L, hd, fg) ∧ v = (nI c, D, P, H, B, L, hd, rd, ch) ∧ dt_Q c P L hd fg rd ∧ dt_C c hd ch
theorem i_up {k : Nat} {u : SX} {v : SY} (h : i_Rel k u v) : i_Rel (k + 5) u v := h
theorem i_vc0 : wpX_init (fun u => wpY_init (fun v => i_Rel 0 u v)) :=
  ⟨0, _, _, _, _, _, _, _, _, _, rfl, rfl, ⟨by omega, fun r hr => absurd hr (Nat.not_lt_zero r), fun _ => Or.inl rfl, fun _ => Or.inl ⟨rfl, rfl, rfl⟩, fun _ _ _ _ _ => rfl⟩, fun _ _ => rfl⟩
def dt_bad (x : Int32) : Prop := x < 0 ∨ (¬ x < 0 ∧ 2 ≤ x ∧ ¬ x ≤ 1)
theorem dt_site (x : Int32) : dt_bad x ∨ ∃ s, s < 2 ∧ x = nI s := by
  by_cases h0 : x < 0
  · exact Or.inl (Or.inl h0)
  · rcases pk_ix x (n := 2) (by omega) with h | h | h
    · exact absurd h h0
    · exact Or.inl (Or.inr ⟨h0, h, fun z => absurd (Int32.le_trans (show (2 : Int32) ≤ x from h) z) (by decide)⟩)
    · exact Or.inr h
theorem dt_s2 {s : Nat} (hs : s < 2) : ¬ nI s < 0 ∧ ¬ (2 : Int32) ≤ nI s ∧ nI s ≤ 1 :=
  ⟨nI_pos (by omega), nI_ge (b := 2) hs (by omega), nI_le (b := 1) (by omega) (by omega)⟩
theorem dt_xs0 {post : Int32 → Prop} {x : Int32} (hx : dt_bad x) (h : post 0) : wpX_isSite post x :=
  hx.elim (fun a => br_t a h) (fun a => br_f a.1 (br_t a.2.1 h))
theorem dt_xs {post : Int32 → Prop} {s : Nat} (hs : s < 2) (h : post 1) : wpX_isSite post (nI s) :=
  br_f (dt_s2 hs).1 (br_f (dt_s2 hs).2.1 h)
theorem dt_ys0 {post : Int32 → Prop} {v : SY} {x : Int32} (hx : dt_bad x) (h : post 1) : wpY_badSite post v x :=
  hx.elim (fun a => br_t a h) (fun a => br_f a.1 (br_f a.2.2 h))
theorem dt_ys {post : Int32 → Prop} {v : SY} {s : Nat} (hs : s < 2) (h : post 0) : wpY_badSite post v (nI s) :=
  br_f (dt_s2 hs).1 (br_t (dt_s2 hs).2.2 h)
def dt_bdc (x : Int32) : Prop := x < 0 ∨ (¬ x < 0 ∧ ¬ x < 4 ∧ ¬ x ≤ 3)
theorem dt_doc (x : Int32) : dt_bdc x ∨ (¬ x < 0 ∧ x < 4 ∧ x ≤ 3) := by
  by_cases h0 : x < 0
  · exact Or.inl (Or.inl h0)
  · rcases pk_ix x (n := 4) (by omega) with h | h | ⟨j, hj, rfl⟩
    · exact absurd h h0
    · exact Or.inl (Or.inr ⟨h0, Int32.not_lt.mpr h, fun z => absurd (Int32.le_trans (show (4 : Int32) ≤ x from h) z) (by decide)⟩)
    · exact Or.inr ⟨h0, nI_lt (b := 4) hj (by omega), nI_le (b := 3) (by omega) (by omega)⟩
def dt_ref (e v1 v2 : Int32) : Prop := (∀ post : Int32 → Prop, post e → wpX_refusalToLook post v1 v2) ∧ (∀ (v : SY) (post : Int32 → Prop), post e → wpY_refusal post v v1 v2)
theorem dt_refc (v1 v2 : Int32) : (∃ e, ¬ e = 0 ∧ ¬ 0 ≤ e ∧ dt_ref e v1 v2) ∨ ∃ s, s < 2 ∧ v1 = nI s ∧ dt_ref 0 v1 v2 := by
  rcases dt_site v1 with b | ⟨s, hs, rfl⟩
  · refine Or.inl ⟨-1, by decide, by decide, fun post h => ?_, fun v post h => ?_⟩
    · unfold wpX_refusalToLook
      exact dt_xs0 b (br_t rfl h)
    · unfold wpY_refusal
      exact dt_ys0 b (br_f dt_one h)
  · rcases dt_doc v2 with b | g
    · refine Or.inl ⟨-2, by decide, by decide, fun post h => ?_, fun v post h => ?_⟩
      · unfold wpX_refusalToLook
        exact dt_xs hs (br_f dt_one (b.elim (fun a => br_t a h) (fun a => br_f a.1 (br_f a.2.1 h))))
      · unfold wpY_refusal
        exact dt_ys hs (br_t rfl (b.elim (fun a => br_t a (br_f dt_one h)) (fun a => br_f a.1 (br_f a.2.2 (br_f dt_one h)))))
    · refine Or.inr ⟨s, hs, rfl, fun post h => ?_, fun v post h => ?_⟩
      · unfold wpX_refusalToLook
        exact dt_xs hs (br_f dt_one (br_f g.1 (br_t g.2.1 h)))
      · unfold wpY_refusal
        exact dt_ys hs (br_t rfl (br_f g.1 (br_t g.2.2 (br_t rfl h))))
section
variable {c : Nat} {D P H B L hd fg rd ch : Nat → Int32}
theorem dt_xw45 {post : Int32 → SX → Prop} {s : Nat} {body del dep : Int32} (hc : c < 40) (hs : s < 2) (h01 : del = 0 ∨ del = 1) (h : post (nI c) (nI (c + 1), D, P, upd H c dep, upd B c body, upd L c del, upd hd (s * 40 + c) 1, fg)) : wX_write_45 post (nI s) body del (nI c) dep (nI c) (nI c) D P H B L hd fg := by
  have ec : (nI c).toNatClampNeg = c := nI_clamp (by omega)
  have ep : (nI s * 40 + nI c).toNatClampNeg = s * 40 + c := by rw [dt_pl]; exact nI_clamp (by omega)
  have ic : vp_in (nI c) 40 := vp_in_nI hc (by omega)
  exact ⟨ic, nm_r (by rw [ec]) ⟨ic, nm_r (by rw [ec]) ⟨ic, nm_r (by rw [ec, dt_vb h01]) ⟨pk_in (s * 40 + c) 80 (by omega) (dt_pl s c), nm_r (by rw [ep, dt_vb1]) (nm_r (nI_1 c) h)⟩⟩⟩⟩
theorem dt_xw {post : Int32 → SX → Prop} {s : Nat} {d par body del dep : Int32} (hc : c < 40) (hs : s < 2) (h01 : del = 0 ∨ del = 1) (hp : (par = -1 ∧ dep = 1) ∨ ∃ q, q < c ∧ par = nI q ∧ dep = H q + 1) (h : post (nI c) (nI (c + 1), upd D c d, upd P c par, upd H c dep, upd B c body, upd L c del, upd hd (s * 40 + c) 1, fg)) : wpX_write post (nI c, D, P, H, B, L, hd, fg) (nI s) d par body del := by
  have ec : (nI c).toNatClampNeg = c := nI_clamp (by omega)
  have ic : vp_in (nI c) 40 := vp_in_nI hc (by omega)
  refine ⟨ic, nm_r (by rw [ec]) ⟨ic, nm_r (by rw [ec]) ?_⟩⟩
  rcases hp with ⟨rfl, rfl⟩ | ⟨q, hq, rfl, rfl⟩
  · exact br_t rfl (dt_xw45 hc hs h01 h)
  · refine br_f (dt_nm (by omega)) ⟨vp_in_nI (by omega) (by omega), ?_⟩
    rw [nI_clamp (show q < 2 ^ 31 by omega)]
    exact dt_xw45 hc hs h01 h
theorem dt_yw54 {post : Int32 → SY → Prop} {s : Nat} {body del dep : Int32} (hc : c < 40) (hs : s < 2) (h01 : del = 0 ∨ del = 1) {f : Int32} (h : post (nI c) (f, D, P, upd H c dep, upd B c body, upd L c del, upd hd (s * 40 + c) 1, upd rd (s * 40 + c) 1, upd ch s (ch s + 1))) : wY_add_54 post (nI s) body del (nI c) dep (nI c) f D P H B L hd rd ch := by
  have ec : (nI c).toNatClampNeg = c := nI_clamp (by omega)
  have es : (nI s).toNatClampNeg = s := nI_clamp (by omega)
  have ep : (nI s * 40 + nI c).toNatClampNeg = s * 40 + c := by rw [dt_pl]; exact nI_clamp (by omega)
  have ic : vp_in (nI c) 40 := vp_in_nI hc (by omega)
  have is : vp_in (nI s) 2 := vp_in_nI hs (by omega)
  have ip : vp_in (nI s * 40 + nI c) 80 := pk_in (s * 40 + c) 80 (by omega) (dt_pl s c)
  exact ⟨ic, nm_r (by rw [ec]) ⟨ic, nm_r (by rw [ec]) ⟨ic, nm_r (by rw [ec, dt_vb h01]) ⟨ip, nm_r (by rw [ep, dt_vb1]) ⟨ip, nm_r (by rw [ep, dt_vb1]) ⟨is, is, nm_r (by rw [es]) h⟩⟩⟩⟩⟩⟩
theorem dt_yw {post : Int32 → SY → Prop} {s : Nat} {d par body del dep : Int32} (hc : c < 40) (hs : s < 2) (h01 : del = 0 ∨ del = 1) (hp : (par = -1 ∧ dep = 1) ∨ ∃ q, q < c ∧ par = nI q ∧ dep = H q + 1) (h : post (nI c) (nI (c + 1), upd D c d, upd P c par, upd H c dep, upd B c body, upd L c del, upd hd (s * 40 + c) 1, upd rd (s * 40 + c) 1, upd ch s (ch s + 1))) : wpY_add post (nI c, D, P, H, B, L, hd, rd, ch) (nI s) d par body del := by
  have ec : (nI c).toNatClampNeg = c := nI_clamp (by omega)
  have ic : vp_in (nI c) 40 := vp_in_nI hc (by omega)
  refine nm_r (nI_1 c) ⟨ic, nm_r (by rw [ec]) ⟨ic, nm_r (by rw [ec]) ?_⟩⟩
  rcases hp with ⟨rfl, rfl⟩ | ⟨q, hq, rfl, rfl⟩
  · exact br_f (by decide) (dt_yw54 hc hs h01 h)
  · refine br_t (nI_pos' (by omega)) ⟨vp_in_nI (by omega) (by omega), ?_⟩
    rw [nI_clamp (show q < 2 ^ 31 by omega)]
    exact dt_yw54 hc hs h01 h
theorem dt_Qw {s : Nat} {par del : Int32} (hc : c < 40) (hs : s < 2) (h01 : del = 0 ∨ del = 1) (hp : par = -1 ∨ ∃ q, q < c ∧ par = nI q) (h : dt_Q c P L hd fg rd) : dt_Q (c + 1) (upd P c par) (upd L c del) (upd hd (s * 40 + c) 1) fg (upd rd (s * 40 + c) 1) := by
  obtain ⟨h1, h2, h3, h4, h5⟩ := h
  refine ⟨by omega, fun r hr => ?_, fun r => ?_, fun p => ?_, fun s' r hs' hr hr' => ?_⟩
  · by_cases e : r = c
    · subst e
      rw [pk_us]
      exact hp
    · rw [pk_un e]
      exact h2 r (by omega)
  · by_cases e : r = c
    · subst e
      rw [pk_us]
      exact h01
    · rw [pk_un e]
      exact h3 r
  · by_cases e : p = s * 40 + c
    · subst e
      rw [pk_us, pk_us]
      have h0 := h5 s c hs (by omega) hc
      rcases h4 (s * 40 + c) with z | z
      · exact Or.inr ⟨rfl, Or.inl ⟨rfl, z.2.2⟩⟩
      · rw [h0] at z
        exact absurd z.1.symm dt_one
    · rw [pk_un e, pk_un e]
      exact h4 p
  · rw [pk_un (by omega)]
    exact h5 s' r hs' (by omega) hr'
theorem dt_Cw {s : Nat} (hc : c < 40) (hs : s < 2) (h0 : ∀ t, t < 2 → hd (t * 40 + c) = 0) (h : dt_C c hd ch) : dt_C (c + 1) (upd hd (s * 40 + c) 1) (upd ch s (ch s + 1)) := by
  intro s' hs'
  by_cases e : s' = s
  · subst e
    rw [pk_us, h s' hs, nI_1]
    refine congrArg nI (dt_ct ?_ ?_)
    · refine dt_cn_congr c (fun i hi => ?_)
      rw [pk_un (by omega)]
    · rw [pk_us]
      exact dt_one
  · rw [pk_un e, h s' hs']
    refine congrArg nI (dt_cf ?_ ?_)
    · refine dt_cn_congr c (fun i hi => ?_)
      rw [pk_un (by omega)]
    · rw [pk_un (by omega), h0 s' hs']
      exact fun z => z rfl
end
end
section
section
variable {c : Nat} {D P H B L hd fg rd ch : Nat → Int32}
theorem dt_f01 (h : dt_Q c P L hd fg rd) (p : Nat) : (fg p = 0 ∨ fg p = 1) ∧ (rd p = 0 ∨ rd p = 1) := by
  rcases h.2.2.2.1 p with z | ⟨-, z | z⟩
  · exact ⟨Or.inl z.2.2, Or.inl z.2.1⟩
  · exact ⟨Or.inl z.2, Or.inr z.1⟩
  · exact ⟨Or.inr z.2, Or.inl z.1⟩
theorem dt_xcp {post : SX → Prop} {s o i : Nat} (hs : s < 2) (ho : o < 2) (hi : i < 40) (h01 : fg (o * 40 + i) = 0 ∨ fg (o * 40 + i) = 1) (h : post (nI c, D, P, H, B, L, upd hd (s * 40 + i) 1, upd fg (s * 40 + i) (fg (o * 40 + i)))) : wpX_copy post (nI c, D, P, H, B, L, hd, fg) (nI o) (nI s) (nI i) := by
  have es : (nI s * 40 + nI i).toNatClampNeg = s * 40 + i := by rw [dt_pl]; exact nI_clamp (by omega)
  have eo : (nI o * 40 + nI i).toNatClampNeg = o * 40 + i := by rw [dt_pl]; exact nI_clamp (by omega)
  have is : vp_in (nI s * 40 + nI i) 80 := pk_in (s * 40 + i) 80 (by omega) (dt_pl s i)
  have io : vp_in (nI o * 40 + nI i) 80 := pk_in (o * 40 + i) 80 (by omega) (dt_pl o i)
  unfold wpX_copy wpX_place
  dsimp only
  exact ⟨is, nm_r (by rw [es, dt_vb1]) ⟨io, is, nm_r (by rw [es, eo, dt_vb h01]) h⟩⟩
theorem dt_Qp {s o i : Nat} (hs : s < 2) (ho : o < 2) (hi : i < c) (ha : ¬ hd (o * 40 + i) = 0) (hb : hd (s * 40 + i) = 0) (h : dt_Q c P L hd fg rd) : dt_Q c P L (upd hd (s * 40 + i) 1) (upd fg (s * 40 + i) (fg (o * 40 + i))) (upd rd (s * 40 + i) (rd (o * 40 + i))) := by
  obtain ⟨h1, h2, h3, h4, h5⟩ := h
  refine ⟨h1, h2, h3, fun p => ?_, fun t r ht hr hr' => ?_⟩
  · by_cases e : p = s * 40 + i
    · subst e
      rw [pk_us, pk_us, pk_us]
      rcases h4 (o * 40 + i) with z | z
      · exact absurd z.1 ha
      · exact Or.inr ⟨rfl, z.2⟩
    · rw [pk_un e, pk_un e, pk_un e]
      exact h4 p
  · rw [pk_un (by omega)]
    exact h5 t r ht hr hr'
theorem dt_pl0 {s o : Nat} {d : Int32} (hso : s + o = 1) : ∀ n i (hd fg rd : Nat → Int32) m, i + n = c → dt_Q c P L hd fg rd → ∃ (hd' fg' rd' : Nat → Int32) (m' : Nat), dt_Q c P L hd' fg' rd' ∧ dt_cn (fun r => ¬ hd' (s * 40 + r) = 0) c + m = dt_cn (fun r => ¬ hd (s * 40 + r) = 0) c + m' ∧ dt_cn (fun r => ¬ hd' (o * 40 + r) = 0) c = dt_cn (fun r => ¬ hd (o * 40 + r) = 0) c ∧ (∀ post : Int32 → SX → Prop, post (nI m') (nI c, D, P, H, B, L, hd', fg') → wX_pull_23 post (nI s) d (nI o) (n + 1) (nI m) (nI i) (nI c) D P H B L hd fg) ∧ (∀ post : Int32 → SY → Prop, post (nI m') (nI c, D, P, H, B, L, hd', rd', upd ch s (ch s + nI m')) → wY_pull_21 post (nI s) d (nI c) (n + 1) (nI m) (nI i) D P H B L hd rd ch) := by
  have hs : s < 2 := by omega
  have ho : o < 2 := by omega
  have eo : (1 : Int32) - nI s = nI o := by
    rw [show (1 : Int32) = nI 1 from rfl, pk_sub (by omega)]
    exact congrArg nI (by omega)
  intro n
  induction n with
  | zero =>
    intro i hd fg rd m hi q
    have hc := q.1
    have es : (nI s).toNatClampNeg = s := nI_clamp (by omega)
    have is : vp_in (nI s) 2 := vp_in_nI hs (by omega)
    exact ⟨hd, fg, rd, m, q, rfl, rfl, fun post h => br_t (nI_le (by omega) (by omega)) h, fun post h => br_t (nI_le (by omega) (by omega)) ⟨is, is, nm_r (by rw [es]) h⟩⟩
  | succ n ih =>
    intro i hd fg rd m hi q
    have hc := q.1
    have es : (nI s * 40 + nI i) = nI (s * 40 + i) := dt_pl s i
    have et : ((1 - nI s) * 40 + nI i) = nI (o * 40 + i) := by rw [eo]; exact dt_pl o i
    have i40 : vp_in (nI i) 40 := vp_in_nI (by omega) (by omega)
    have is : vp_in (nI (s * 40 + i)) 80 := vp_in_nI (by omega) (by omega)
    have io : vp_in (nI (o * 40 + i)) 80 := vp_in_nI (by omega) (by omega)
    by_cases a : (¬ hd (o * 40 + i) = 0 ∧ D i = d) ∧ hd (s * 40 + i) = 0
    · obtain ⟨⟨a1, a2⟩, a3⟩ := a
      obtain ⟨hd', fg', rd', m', q', c1, c2, hX, hY⟩ := ih (i + 1) (upd hd (s * 40 + i) 1) (upd fg (s * 40 + i) (fg (o * 40 + i))) (upd rd (s * 40 + i) (rd (o * 40 + i))) (m + 1) (by omega) (dt_Qp hs ho (by omega) a1 a3 q)
      have u1 : dt_cn (fun r => ¬ upd hd (s * 40 + i) 1 (s * 40 + r) = 0) c = dt_cn (fun r => ¬ hd (s * 40 + r) = 0) c + 1 := by
        refine dt_cn_up (a := i) (fun z => z a3) ?_ (fun j hj => ?_) c (by omega)
        · rw [pk_us]
          exact dt_one
        · rw [pk_un (by omega)]
      have u2 : dt_cn (fun r => ¬ upd hd (s * 40 + i) 1 (o * 40 + r) = 0) c = dt_cn (fun r => ¬ hd (o * 40 + r) = 0) c := by
        refine dt_cn_congr c (fun j hj => ?_)
        rw [pk_un (by omega)]
      refine ⟨hd', fg', rd', m', q', by omega, by rw [c2, u2], fun post h => ?_, fun post h => ?_⟩
      · exact br_f (nI_ge (by omega) (by omega)) (dt_xo hc ho (by omega) (fun _ _ => br_f dt_one (dt_xh hc hs (by omega) (fun z => absurd a3 z) (fun _ => br_t rfl (dt_xcp hs ho (by omega) (dt_f01 q _).1 (nm_r (nI_1 m) (nm_r (nI_1 i) (hX post h))))))) (fun z => absurd ⟨a1, a2⟩ z))
      · refine br_f (nI_ge (by omega) (by omega)) (nm_r es (nm_r et ⟨i40, dt_aq i (by omega) rfl (fun _ => ⟨io, dt_aq (o * 40 + i) (by omega) rfl (fun z => absurd z a1) (fun _ => ⟨is, dt_aq (s * 40 + i) (by omega) rfl (fun _ => ⟨is, nm_r (by rw [nI_clamp (by omega), dt_vb1]) ⟨io, is, nm_r (by rw [nI_clamp (by omega), nI_clamp (by omega), dt_vb (dt_f01 q _).2]) (nm_r (nI_1 m) (nm_r (nI_1 i) (hY post h)))⟩⟩) (fun z => absurd a3 z)⟩)⟩) (fun z => absurd a2 z)⟩))
    · obtain ⟨hd', fg', rd', m', q', c1, c2, hX, hY⟩ := ih (i + 1) hd fg rd m (by omega) q
      refine ⟨hd', fg', rd', m', q', c1, c2, fun post h => ?_, fun post h => ?_⟩
      · exact br_f (nI_ge (by omega) (by omega)) (dt_xo hc ho (by omega) (fun a1 a2 => br_f dt_one (dt_xh hc hs (by omega) (fun z => br_f dt_one (nm_r (nI_1 i) (hX post h))) (fun z => absurd ⟨⟨a1, a2⟩, z⟩ a))) (fun z => br_t rfl (nm_r (nI_1 i) (hX post h))))
      · exact br_f (nI_ge (by omega) (by omega)) (nm_r es (nm_r et ⟨i40, dt_aq i (by omega) rfl (fun a2 => ⟨io, dt_aq (o * 40 + i) (by omega) rfl (fun z => nm_r (nI_1 i) (hY post h)) (fun a1 => ⟨is, dt_aq (s * 40 + i) (by omega) rfl (fun z => absurd ⟨⟨a1, a2⟩, z⟩ a) (fun z => nm_r (nI_1 i) (hY post h))⟩)⟩) (fun z => nm_r (nI_1 i) (hY post h))⟩))
theorem dt_Qc {p : Nat} (ha : hd p = 1) (h : dt_Q c P L hd fg rd) : dt_Q c P L hd (upd fg p 1) (upd rd p 0) := by
  obtain ⟨h1, h2, h3, h4, h5⟩ := h
  refine ⟨h1, h2, h3, fun q => ?_, h5⟩
  by_cases e : q = p
  · subst e
    rw [pk_us, pk_us]
    exact Or.inr ⟨ha, Or.inr ⟨rfl, rfl⟩⟩
  · rw [pk_un e, pk_un e]
    exact h4 q
theorem dt_cp0 {s : Nat} (hs : s < 2) : ∀ n i (fg rd : Nat → Int32) m, i + n = c → dt_Q c P L hd fg rd → ∃ (fg' rd' : Nat → Int32) (m' : Nat), dt_Q c P L hd fg' rd' ∧ (∀ post : Int32 → SX → Prop, post (nI m') (nI c, D, P, H, B, L, hd, fg') → wX_compact_13 post (nI s) (nI c) (n + 1) (nI m) (nI i) D P H B L hd fg) ∧ (∀ post : Int32 → SY → Prop, post (nI m') (nI c, D, P, H, B, L, hd, rd', ch) → wY_compact_14 post (nI s) (nI c) (n + 1) (nI m) (nI i) D P H B L hd rd ch) := by
  intro n
  induction n with
  | zero =>
    intro i fg rd m hi q
    have hc := q.1
    exact ⟨fg, rd, m, q, fun post h => br_t (nI_le (by omega) (by omega)) h, fun post h => br_t (nI_le (by omega) (by omega)) h⟩
  | succ n ih =>
    intro i fg rd m hi q
    have hc := q.1
    have ep : (nI s * 40 + nI i).toNatClampNeg = s * 40 + i := by rw [dt_pl]; exact nI_clamp (by omega)
    have ip : vp_in (nI s * 40 + nI i) 80 := pk_in (s * 40 + i) 80 (by omega) (dt_pl s i)
    by_cases a : rd (s * 40 + i) = 0
    · obtain ⟨fg', rd', m', q', hX, hY⟩ := ih (i + 1) fg rd m (by omega) q
      have b : ¬ (¬ hd (s * 40 + i) = 0 ∧ fg (s * 40 + i) = 0) := by
        rcases q.2.2.2.1 (s * 40 + i) with z | ⟨-, z | z⟩
        · exact fun y => y.1 z.1
        · exact absurd (z.1.symm.trans a) dt_one
        · exact fun y => dt_one (z.2.symm.trans y.2)
      refine ⟨fg', rd', m', q', fun post h => ?_, fun post h => ?_⟩
      · exact br_f (nI_ge (by omega) (by omega)) (dt_xc hc hs (by omega) (fun y z => absurd ⟨y, z⟩ b) (fun _ => br_t rfl (nm_r (nI_1 i) (hX post h))))
      · exact br_f (nI_ge (by omega) (by omega)) ⟨ip, dt_aq (s * 40 + i) (by omega) (dt_pl s i) (fun _ => nm_r (nI_1 i) (hY post h)) (fun z => absurd a z)⟩
    · have b : hd (s * 40 + i) = 1 ∧ fg (s * 40 + i) = 0 := by
        rcases q.2.2.2.1 (s * 40 + i) with z | ⟨y, z | z⟩
        · exact absurd z.2.1 a
        · exact ⟨y, z.2⟩
        · exact absurd z.1 a
      have b0 : ¬ hd (s * 40 + i) = 0 := by rw [b.1]; exact dt_one
      by_cases k : dt_kid c P hd s i
      · obtain ⟨fg', rd', m', q', hX, hY⟩ := ih (i + 1) (upd fg (s * 40 + i) 1) (upd rd (s * 40 + i) 0) (m + 1) (by omega) (dt_Qc b.1 q)
        refine ⟨fg', rd', m', q', fun post h => ?_, fun post h => ?_⟩
        · refine br_f (nI_ge (by omega) (by omega)) (dt_xc hc hs (by omega) (fun _ _ => br_f dt_one (dt_xk hc hs (fun _ => br_f dt_one ?_) (fun z => absurd k z))) (fun z => absurd ⟨b0, b.2⟩ z))
          unfold wpX_place
          exact ⟨ip, nm_r (by rw [ep, dt_vb1]) (nm_r (nI_1 m) (nm_r (nI_1 i) (hX post h)))⟩
        · exact br_f (nI_ge (by omega) (by omega)) ⟨ip, dt_aq (s * 40 + i) (by omega) (dt_pl s i) (fun z => absurd z a) (fun _ => dt_yf hc hs (by omega) (fun z => absurd k z.2) (fun _ => br_t rfl ⟨ip, nm_r (by rw [ep, dt_vb0]) (nm_r (nI_1 m) (nm_r (nI_1 i) (hY post h)))⟩))⟩
      · obtain ⟨fg', rd', m', q', hX, hY⟩ := ih (i + 1) fg rd m (by omega) q
        refine ⟨fg', rd', m', q', fun post h => ?_, fun post h => ?_⟩
        · exact br_f (nI_ge (by omega) (by omega)) (dt_xc hc hs (by omega) (fun _ _ => br_f dt_one (dt_xk hc hs (fun z => absurd z k) (fun _ => br_t rfl (nm_r (nI_1 i) (hX post h))))) (fun z => absurd ⟨b0, b.2⟩ z))
        · exact br_f (nI_ge (by omega) (by omega)) ⟨ip, dt_aq (s * 40 + i) (by omega) (dt_pl s i) (fun z => absurd z a) (fun _ => dt_yf hc hs (by omega) (fun _ => br_f dt_one (nm_r (nI_1 i) (hY post h))) (fun z => absurd ⟨b0, k⟩ z))⟩
end
end
section
section
variable {c : Nat} {D P H B L hd fg rd ch : Nat → Int32}
theorem dt_cf0 {s : Nat} {d v : Int32} (hc : c ≤ 40) (hs : s < 2) (hL : ∀ r, L r = 0 ∨ L r = 1) (hv : ¬ v < 0) : ∀ n i, i + n = c → ∃ z : Int32, (∀ post : Int32 → Prop, post z → wX_conflict_25 post (nI s) d v (nI c) D P H B L hd fg (n + 1) (nI i)) ∧ (∀ post : Int32 → Prop, post z → wY_conflict_19 post (nI s) d v (nI c) D P H B L hd rd ch (n + 1) (nI i)) := by
  intro n
  induction n with
  | zero =>
    intro i hi
    exact ⟨-5, fun post h => br_t (nI_le (by omega) (by omega)) h, fun post h => br_t (nI_le (by omega) (by omega)) h⟩
  | succ n ih =>
    intro i hi
    obtain ⟨z, hX, hY⟩ := ih (i + 1) (by omega)
    have i40 : vp_in (nI i) 40 := vp_in_nI (by omega) (by omega)
    by_cases o : dt_lf c D P hd s d i ∧ L i = 0
    · have ce : dt_cn (fun q => dt_lf c D P hd s d q ∧ (¬ (0 : Int32) = 0 ∨ L q = 0) ∧ dt_bt H B L q i) c = dt_cn (fun q => dt_lf c D P hd s d q ∧ dt_bt H B L q i) c :=
        dt_cn_congr c (fun j hj => ⟨fun y => ⟨y.1, y.2.2⟩, fun y => ⟨y.1, Or.inr (dt_opn o.2 y.2), y.2⟩⟩)
      have cl := dt_cn_le (fun q => dt_lf c D P hd s d q ∧ dt_bt H B L q i) c
      by_cases e : nI (dt_cn (fun q => dt_lf c D P hd s d q ∧ dt_bt H B L q i) c) - 1 = v
      · refine ⟨nI i, fun post h => ?_, fun post h => ?_⟩
        · exact br_f (nI_ge (by omega) (by omega)) (dt_xp hc hs (by omega) (fun _ => br_f dt_one (dt_xcb hc hs (by omega) hL (br_t e h))) (fun y => absurd o y))
        · refine br_f (nI_ge (by omega) (by omega)) ⟨i40, dt_aq i (by omega) rfl (fun _ => dt_yf hc hs (by omega) (fun _ => br_f dt_one ⟨i40, dt_aq i (by omega) rfl (fun _ => dt_yh hc hs (by omega) hL ?_) (fun y => absurd o.2 y)⟩) (fun y => absurd o.1.2 y)) (fun y => absurd o.1.1 y)⟩
          rw [ce]
          refine br_f hv (br_f ?_ (br_t e h))
          by_cases c0 : dt_cn (fun q => dt_lf c D P hd s d q ∧ dt_bt H B L q i) c = 0
          · rw [c0] at e
            exact absurd (e ▸ (by decide : nI 0 - 1 < 0)) hv
          · exact nI_nle (by omega) (by omega)
      · refine ⟨z, fun post h => ?_, fun post h => ?_⟩
        · exact br_f (nI_ge (by omega) (by omega)) (dt_xp hc hs (by omega) (fun _ => br_f dt_one (dt_xcb hc hs (by omega) hL (br_f e (nm_r (nI_1 i) (hX post h))))) (fun y => absurd o y))
        · refine br_f (nI_ge (by omega) (by omega)) ⟨i40, dt_aq i (by omega) rfl (fun _ => dt_yf hc hs (by omega) (fun _ => br_f dt_one ⟨i40, dt_aq i (by omega) rfl (fun _ => dt_yh hc hs (by omega) hL ?_) (fun y => absurd o.2 y)⟩) (fun y => absurd o.1.2 y)) (fun y => absurd o.1.1 y)⟩
          rw [ce]
          exact br_f hv (br_c (fun _ => nm_r (nI_1 i) (hY post h)) (fun _ => br_f e (nm_r (nI_1 i) (hY post h))))
    · refine ⟨z, fun post h => ?_, fun post h => ?_⟩
      · exact br_f (nI_ge (by omega) (by omega)) (dt_xp hc hs (by omega) (fun y => absurd y o) (fun _ => br_t rfl (nm_r (nI_1 i) (hX post h))))
      · exact br_f (nI_ge (by omega) (by omega)) ⟨i40, dt_aq i (by omega) rfl (fun e => dt_yf hc hs (by omega) (fun l => br_f dt_one ⟨i40, dt_aq i (by omega) rfl (fun f => absurd ⟨⟨e, l⟩, f⟩ o) (fun _ => nm_r (nI_1 i) (hY post h))⟩) (fun _ => br_t rfl (nm_r (nI_1 i) (hY post h)))) (fun _ => nm_r (nI_1 i) (hY post h))⟩
theorem dt_cfn {post : Int32 → Prop} {s : Nat} {d v : Int32} (hc : c ≤ 40) (hs : s < 2) (hL : ∀ r, L r = 0 ∨ L r = 1) (hv : v < 0) (h : post (-5)) : ∀ n i, i + n = c → wY_conflict_19 post (nI s) d v (nI c) D P H B L hd rd ch (n + 1) (nI i) := by
  intro n
  induction n with
  | zero =>
    intro i hi
    exact br_t (nI_le (by omega) (by omega)) h
  | succ n ih =>
    intro i hi
    have i40 : vp_in (nI i) 40 := vp_in_nI (by omega) (by omega)
    have t := ih (i + 1) (by omega)
    exact br_f (nI_ge (by omega) (by omega)) ⟨i40, dt_aq i (by omega) rfl (fun e => dt_yf hc hs (by omega) (fun l => br_f dt_one ⟨i40, dt_aq i (by omega) rfl (fun f => dt_yh hc hs (by omega) hL (br_t hv (nm_r (nI_1 i) t))) (fun _ => nm_r (nI_1 i) t)⟩) (fun _ => br_t rfl (nm_r (nI_1 i) t))) (fun _ => nm_r (nI_1 i) t)⟩
def dt_en (t : Nat) : Int32 := nI t - 1
def dt_pp (P : Nat → Int32) : Nat → Nat
  | 0 => 0
  | r + 1 => (P r + 1).toNatClampNeg
def dt_ow (P : Nat → Int32) : Nat → Nat → Nat → Prop
  | 0, _, _ => False
  | n + 1, x, t => ¬ t = 0 ∧ (x = t ∨ dt_ow P n x (dt_pp P t))
theorem dt_enI {t : Nat} (h : t ≤ 40) : (dt_en t).toInt = (t : Int) - 1 := by
  revert t
  decide +kernel
theorem dt_pp_lt {c : Nat} (hc : c ≤ 40) (hP : ∀ r, r < c → P r = -1 ∨ ∃ q, q < r ∧ P r = nI q) {r : Nat} (hr : r < c) : dt_pp P (r + 1) ≤ r ∧ P r = dt_en (dt_pp P (r + 1)) := by
  rcases hP r hr with e | ⟨q, hq, e⟩
  · simp only [dt_pp, e]
    exact ⟨Nat.zero_le r, by decide⟩
  · simp only [dt_pp, e, nI_1, nI_clamp (show q + 1 < 2 ^ 31 by omega)]
    exact ⟨by omega, (nI_pred q).symm⟩
theorem dt_ow_le {c x : Nat} (hc : c ≤ 40) (hP : ∀ r, r < c → P r = -1 ∨ ∃ q, q < r ∧ P r = nI q) : ∀ n t, t ≤ c → dt_ow P n x t → x ≤ t := by
  intro n
  induction n with
  | zero => intro t _ h; exact h.elim
  | succ n ih =>
    intro t ht h
    obtain ⟨h0, h | h⟩ := h
    · omega
    · obtain ⟨r, rfl⟩ : ∃ r, t = r + 1 := ⟨t - 1, by omega⟩
      have a := (dt_pp_lt hc hP (show r < c by omega)).1
      have := ih _ (by omega) h
      omega
theorem dt_ow_st {c x : Nat} (hc : c ≤ 40) (hP : ∀ r, r < c → P r = -1 ∨ ∃ q, q < r ∧ P r = nI q) : ∀ n t, t ≤ n → t ≤ c → (dt_ow P (n + 1) x t ↔ dt_ow P n x t) := by
  intro n
  induction n with
  | zero =>
    intro t h _
    have e : t = 0 := by omega
    subst e
    exact ⟨fun z => absurd rfl z.1, fun z => z.elim⟩
  | succ n ih =>
    intro t h ht
    by_cases e : t = 0
    · exact ⟨fun z => absurd e z.1, fun z => absurd e z.1⟩
    · obtain ⟨r, rfl⟩ : ∃ r, t = r + 1 := ⟨t - 1, by omega⟩
      have a := (dt_pp_lt hc hP (show r < c by omega)).1
      have := ih (dt_pp P (r + 1)) (by omega) (by omega)
      exact ⟨fun z => ⟨z.1, z.2.imp id this.mp⟩, fun z => ⟨z.1, z.2.imp id this.mpr⟩⟩
theorem dt_ow_un {c x r : Nat} (hc : c ≤ 40) (hP : ∀ r, r < c → P r = -1 ∨ ∃ q, q < r ∧ P r = nI q) (hr : r < c) : dt_ow P 40 x (r + 1) ↔ x = r + 1 ∨ dt_ow P 40 x (dt_pp P (r + 1)) := by
  have a := (dt_pp_lt hc hP hr).1
  have e := dt_ow_st (x := x) hc hP 39 (dt_pp P (r + 1)) (by omega) (by omega)
  exact ⟨fun z => z.2.imp id e.mpr, fun z => ⟨by omega, z.imp id e.mp⟩⟩
theorem dt_yow0 {post : Int32 → Prop} {x : Nat} (hc : c ≤ 40) (hx : x < c) (hP : ∀ r, r < c → P r = -1 ∨ ∃ q, q < r ∧ P r = nI q) : ∀ n k t, k + n = 40 → t ≤ c → (dt_ow P n (x + 1) t → post 1) → (¬ dt_ow P n (x + 1) t → post 0) → wY_onWay_5 post (nI x) (nI c) D P H B L hd rd ch (n + 1) (dt_en t) (nI k) := by
  intro n
  induction n with
  | zero =>
    intro k t hk ht _ hF
    exact br_t (nI_le (a := 40) (by omega) (by omega)) (hF (fun z => z))
  | succ n ih =>
    intro k t hk ht hT hF
    refine br_f (nI_ge (b := 40) (by omega) (by omega)) ?_
    by_cases e : t = 0
    · subst e
      exact br_t (by decide) (hF (fun z => z.1 rfl))
    · obtain ⟨r, rfl⟩ : ∃ r, t = r + 1 := ⟨t - 1, by omega⟩
      have a := dt_pp_lt hc hP (show r < c by omega)
      have ee : dt_en (r + 1) = nI r := nI_pred r
      rw [ee]
      refine br_f (nI_pos (by omega)) ?_
      by_cases q : r = x
      · subst q
        exact br_t rfl (hT ⟨e, Or.inl rfl⟩)
      · refine br_f (fun z => q ((nI_eq (by omega) (by omega)).mp z)) ⟨vp_in_nI (by omega) (by omega), nm_r (e' := dt_en (dt_pp P (r + 1))) (by rw [nI_clamp (by omega)]; exact a.2) (nm_r (nI_1 k) (ih (k + 1) (dt_pp P (r + 1)) (by omega) (by omega) (fun z => hT ⟨e, Or.inr z⟩) (fun z => hF (fun y => y.2.elim (fun w => q (by omega)) z))))⟩
theorem dt_yow {post : Int32 → Prop} {x r : Nat} (hc : c ≤ 40) (hx : x < c) (hr : r < c) (hP : ∀ r, r < c → P r = -1 ∨ ∃ q, q < r ∧ P r = nI q) (hT : dt_ow P 40 (x + 1) (r + 1) → post 1) (hF : ¬ dt_ow P 40 (x + 1) (r + 1) → post 0) : wpY_onWay post (nI c, D, P, H, B, L, hd, rd, ch) (nI x) (nI r) := by
  have t := dt_yow0 (post := post) (D := D) (H := H) (B := B) (L := L) (hd := hd) (rd := rd) (ch := ch) hc hx hP 40 0 (r + 1) (by omega) (by omega) hT hF
  rw [show dt_en (r + 1) = nI r from nI_pred r] at t
  exact ⟨41, t⟩
def dt_an (m : Nat) : Int32 := if m = 0 then -5 else nI (m - 1)
theorem dt_xcm0 {post : Int32 → Prop} {a b : Nat} (hc : c ≤ 40) (hP : ∀ r, r < c → P r = -1 ∨ ∃ q, q < r ∧ P r = nI q) (hp : ∀ m, m ≤ c → (∀ x, dt_ow P 40 x m ↔ dt_ow P 40 x a ∧ dt_ow P 40 x b) → post (dt_an m)) : ∀ n k l r, k + n = 80 → l + r ≤ n → l ≤ c → r ≤ c → (∀ x, dt_ow P 40 x l ∧ dt_ow P 40 x r ↔ dt_ow P 40 x a ∧ dt_ow P 40 x b) → wX_common_27 post (nI c) D P H B L hd fg (n + 1) (dt_en l) (dt_en r) (nI k) := by
  have fin : ∀ l, l ≤ c → (∀ x, dt_ow P 40 x l ∧ dt_ow P 40 x l ↔ dt_ow P 40 x a ∧ dt_ow P 40 x b) → wX_common_71 post (dt_en l) (nI c) D P H B L hd fg := by
    intro l hl h
    have t := hp l hl (fun x => ⟨fun z => (h x).mp ⟨z, z⟩, fun z => ((h x).mpr z).1⟩)
    by_cases e : l = 0
    · subst e
      exact br_t (by decide) t
    · obtain ⟨r, rfl⟩ : ∃ r, l = r + 1 := ⟨l - 1, by omega⟩
      rw [show dt_en (r + 1) = nI r from nI_pred r]
      exact br_f (dt_nm (by omega)) t
  intro n
  induction n with
  | zero =>
    intro k l r hk hlr hl hr h
    have e : l = r := by omega
    subst e
    exact br_t (nI_le (a := 80) (by omega) (by omega)) (fin l hl h)
  | succ n ih =>
    intro k l r hk hlr hl hr h
    refine br_f (nI_ge (b := 80) (by omega) (by omega)) ?_
    by_cases e : l = r
    · subst e
      exact br_t rfl (fin l hl h)
    · have el := dt_enI (t := l) (by omega)
      have er := dt_enI (t := r) (by omega)
      refine br_f (fun z => e (by rw [← Int32.toInt_inj, el, er] at z; omega)) ?_
      by_cases g : l < r
      · refine br_t (by rw [Int32.le_iff_toInt_le, el, er]; omega) ?_
        obtain ⟨q, rfl⟩ : ∃ q, r = q + 1 := ⟨r - 1, by omega⟩
        have p := dt_pp_lt hc hP (show q < c by omega)
        refine ⟨?_, nm_r (e' := dt_en (dt_pp P (q + 1))) ?_ (nm_r (nI_1 k) (ih (k + 1) l (dt_pp P (q + 1)) (by omega) (by omega) hl (by omega) (fun x => ?_)))⟩
        · rw [show dt_en (q + 1) = nI q from nI_pred q]
          exact vp_in_nI (by omega) (by omega)
        · rw [show dt_en (q + 1) = nI q from nI_pred q, nI_clamp (by omega)]
          exact p.2
        · rw [← h x, dt_ow_un hc hP (show q < c by omega)]
          refine ⟨fun z => ⟨z.1, Or.inr z.2⟩, fun z => ⟨z.1, z.2.elim (fun y => ?_) id⟩⟩
          have := dt_ow_le hc hP 40 l hl z.1
          omega
      · refine br_f (by rw [Int32.le_iff_toInt_le, el, er]; omega) ?_
        obtain ⟨q, rfl⟩ : ∃ q, l = q + 1 := ⟨l - 1, by omega⟩
        have p := dt_pp_lt hc hP (show q < c by omega)
        refine ⟨?_, nm_r (e' := dt_en (dt_pp P (q + 1))) ?_ (nm_r (nI_1 k) (ih (k + 1) (dt_pp P (q + 1)) r (by omega) (by omega) (by omega) hr (fun x => ?_)))⟩
        · rw [show dt_en (q + 1) = nI q from nI_pred q]
          exact vp_in_nI (by omega) (by omega)
        · rw [show dt_en (q + 1) = nI q from nI_pred q, nI_clamp (by omega)]
          exact p.2
        · rw [← h x, dt_ow_un hc hP (show q < c by omega)]
          refine ⟨fun z => ⟨Or.inr z.1, z.2⟩, fun z => ⟨z.1.elim (fun y => ?_) id, z.2⟩⟩
          have := dt_ow_le hc hP 40 r hr z.2
          omega
theorem dt_ycm0 {post : Int32 → Prop} {a b m : Nat} (hc : c ≤ 40) (ha : a < c) (hb : b < c) (hm : m ≤ c) (hP : ∀ r, r < c → P r = -1 ∨ ∃ q, q < r ∧ P r = nI q) (hx : ∀ x, dt_ow P 40 x m ↔ dt_ow P 40 x (a + 1) ∧ dt_ow P 40 x (b + 1)) (hp : post (dt_an m)) : ∀ n i z, i + n = c → (m ≤ i → z = dt_an m) → wY_common_25 post (nI a) (nI b) (nI c) D P H B L hd rd ch (n + 1) z (nI i) := by
  intro n
  induction n with
  | zero =>
    intro i z hi h
    refine br_t (nI_le (by omega) (by omega)) ?_
    rw [h (by omega)]
    exact hp
  | succ n ih =>
    intro i z hi h
    have skip : ¬ (dt_ow P 40 (i + 1) (a + 1) ∧ dt_ow P 40 (i + 1) (b + 1)) → wY_common_25 post (nI a) (nI b) (nI c) D P H B L hd rd ch (n + 1) z (nI (i + 1)) := by
      intro y
      refine ih (i + 1) z (by omega) (fun g => ?_)
      by_cases e : m = i + 1
      · subst e
        exact absurd ((hx (i + 1)).mp ⟨by omega, Or.inl rfl⟩) y
      · exact h (by omega)
    refine br_f (nI_ge (by omega) (by omega)) (dt_yow hc (by omega) ha hP (fun oa => br_f dt_one (dt_yow hc (by omega) hb hP (fun ob => br_f dt_one (nm_r (nI_1 i) (ih (i + 1) (nI i) (by omega) (fun g => ?_)))) (fun ob => br_t rfl (nm_r (nI_1 i) (skip (fun y => ob y.2)))))) (fun oa => br_t rfl (nm_r (nI_1 i) (skip (fun y => oa y.1)))))
    have := dt_ow_le hc hP 40 m hm ((hx (i + 1)).mpr ⟨oa, ob⟩)
    have e : m = i + 1 := by omega
    subst e
    rfl
end
end
section
section
variable {c k : Nat} {D P H B L hd fg rd ch : Nat → Int32}
theorem dt_bix {H B L : Nat → Int32} (hL : ∀ r, L r = 0 ∨ L r = 1) (lf : Nat → Prop) : ∀ i, ∃ z, dt_bi lf (dt_bt H B L) i z := by
  intro i
  induction i with
  | zero => exact ⟨-1, Or.inl ⟨rfl, fun j hj => absurd hj (Nat.not_lt_zero j)⟩⟩
  | succ i ih =>
    obtain ⟨z, h⟩ := ih
    by_cases l : lf i
    · rcases h with ⟨-, m⟩ | ⟨b, hb, -, lb, m⟩
      · exact ⟨_, dt_bi_n m l⟩
      · by_cases t : dt_bt H B L i b
        · exact ⟨_, dt_bi_t hL l m t⟩
        · exact ⟨_, dt_bi_o hL hb lb m t⟩
    · exact ⟨z, dt_bi_f h l⟩
theorem dt_bsu {H B L : Nat → Int32} (hL : ∀ r, L r = 0 ∨ L r = 1) {lf : Nat → Prop} {c : Nat} {z y : Int32} (h : dt_bs lf (dt_bt H B L) c z) (g : dt_bs lf (dt_bt H B L) c y) : y = z := by
  rcases h with ⟨e, n⟩ | ⟨b, hb, e, l, m⟩
  · rcases g with ⟨f, -⟩ | ⟨a, ha, f, o, -⟩
    · rw [e, f]
    · exact absurd o (n a ha)
  · rcases g with ⟨f, n⟩ | ⟨a, ha, f, o, w⟩
    · exact absurd l (n b hb)
    · by_cases q : a = b
      · rw [e, f, q]
      · rcases dt_tot (H := H) (B := B) hL q with t | t
        · exact absurd t (m a ha o)
        · exact absurd t (w b hb l)
theorem dt_wrel {s : Nat} {d par body del dep : Int32} (hc : c < 40) (hs : s < 2) (h01 : del = 0 ∨ del = 1) (hp : par = -1 ∨ ∃ q, q < c ∧ par = nI q) (q : dt_Q c P L hd fg rd) (qc : dt_C c hd ch) : i_Rel k (nI (c + 1), upd D c d, upd P c par, upd H c dep, upd B c body, upd L c del, upd hd (s * 40 + c) 1, fg) (nI (c + 1), upd D c d, upd P c par, upd H c dep, upd B c body, upd L c del, upd hd (s * 40 + c) 1, upd rd (s * 40 + c) 1, upd ch s (ch s + 1)) :=
  ⟨c + 1, _, _, _, _, _, _, _, _, _, rfl, rfl, dt_Qw hc hs h01 hp q, dt_Cw hc hs (fun t ht => q.2.2.2.2 t c ht (Nat.le_refl c) hc) qc⟩
theorem dt_rel (q : dt_Q c P L hd fg rd) (qc : dt_C c hd ch) : i_Rel k (nI c, D, P, H, B, L, hd, fg) (nI c, D, P, H, B, L, hd, rd, ch) := ⟨c, _, _, _, _, _, _, _, _, _, rfl, rfl, q, qc⟩
theorem dt_l0 : (0 : Int32) ≤ 0 := by decide
theorem dt_n3 : ¬ (-3 : Int32) = 0 := by decide
theorem dt_xre {post : Int32 → Prop} {e v1 v2 : Int32} (e0 : ¬ e = 0) (r : dt_ref e v1 v2) (h : post e) : wpX_refusalToWrite post (nI c, D, P, H, B, L, hd, fg) v1 v2 := by
  unfold wpX_refusalToWrite
  dsimp only
  exact r.1 _ (br_f e0 h)
theorem dt_xrf {post : Int32 → Prop} {v1 v2 : Int32} (r : dt_ref 0 v1 v2) (hc : c = 40) (h : post (-3)) : wpX_refusalToWrite post (nI c, D, P, H, B, L, hd, fg) v1 v2 := by
  unfold wpX_refusalToWrite
  dsimp only
  exact r.1 _ (br_t rfl (br_f (nI_nlt (b := 40) (by omega) (by omega)) h))
theorem dt_xrw {post : Int32 → Prop} {v1 v2 : Int32} (r : dt_ref 0 v1 v2) (hc : c < 40) (h : post 0) : wpX_refusalToWrite post (nI c, D, P, H, B, L, hd, fg) v1 v2 := by
  unfold wpX_refusalToWrite
  dsimp only
  exact r.1 _ (br_t rfl (br_t (nI_lt (b := 40) (by omega) (by omega)) h))
theorem dt_c40 (hc : c < 40) : ¬ nI c = 40 := fun z => absurd ((nI_eq (a := c) (b := 40) (by omega) (by omega)).mp z) (by omega)
theorem dt_put (q : dt_Q c P L hd fg rd) (qc : dt_C c hd ch) (v1 v2 v3 v4 : Int32) : ∃ r u' v', i_Rel k u' v' ∧ (∀ post : Int32 → SX → Prop, post r u' → wpX_put post (nI c, D, P, H, B, L, hd, fg) v1 v2 v3 v4) ∧ (∀ post : Int32 → SY → Prop, post r v' → wpY_put post (nI c, D, P, H, B, L, hd, rd, ch) v1 v2 v3 v4) := by
  have hc := q.1
  have hL := q.2.2.1
  rcases dt_refc v1 v2 with ⟨e, e0, e1, r⟩ | ⟨s, hs, rfl, r⟩
  · refine ⟨e, _, _, dt_rel (D := D) (H := H) (B := B) q qc, fun post h => ?_, fun post h => ?_⟩
    · unfold wpX_put
      exact dt_xre e0 r (br_f e0 h)
    · unfold wpY_put
      exact r.2 _ _ (br_f e1 (r.2 _ _ h))
  · by_cases full : c = 40
    · refine ⟨-3, _, _, dt_rel (D := D) (H := H) (B := B) q qc, fun post h => ?_, fun post h => ?_⟩
      · unfold wpX_put
        exact dt_xrf r full (br_f dt_n3 h)
      · unfold wpY_put
        exact r.2 _ _ (br_t dt_l0 (br_t (by rw [full]; rfl) h))
    · have hc' : c < 40 := by omega
      have n40 := dt_c40 hc'
      by_cases w : v3 = -1
      · obtain ⟨z, hz⟩ := dt_bix (H := H) (B := B) hL (dt_lf c D P hd s v2) c
        have hz := dt_fin hL hz
        rcases id hz with ⟨rfl, -⟩ | ⟨b, hb, rfl, lb, -⟩
        · refine ⟨nI c, _, _, dt_wrel (s := s) (d := v2) (par := -1) (body := v4) (del := 0) (dep := 1) (D := D) (H := H) (B := B) hc' hs (Or.inl rfl) (Or.inl rfl) q qc, fun post h => ?_, fun post h => ?_⟩
          · unfold wpX_put
            refine dt_xrw r hc' (br_t rfl (br_t w (dt_xbl hc hs hL (fun y hy => ?_))))
            rw [dt_bsu hL hz hy]
            refine br_t rfl ?_
            unfold wX_put_64
            exact dt_xw hc' hs (Or.inl rfl) (Or.inl ⟨rfl, rfl⟩) h
          · unfold wpY_put
            refine r.2 _ _ (br_t dt_l0 (br_f n40 (br_t w (dt_ybs hc hs hL hz (br_t (by decide) ?_)))))
            unfold wY_put_59
            exact dt_yw hc' hs (Or.inl rfl) (Or.inl ⟨rfl, rfl⟩) h
        · have ib : vp_in (nI b) 40 := vp_in_nI (by omega) (by omega)
          by_cases l : L b = 0
          · refine ⟨-4, _, _, dt_rel (D := D) (H := H) (B := B) q qc, fun post h => ?_, fun post h => ?_⟩
            · unfold wpX_put
              refine dt_xrw r hc' (br_t rfl (br_t w (dt_xbl hc hs hL (fun y hy => ?_))))
              rw [dt_bsu hL hz hy]
              exact br_f (dt_nm (by omega)) ⟨ib, dt_aq b (by omega) rfl (fun _ => h) (fun z => absurd l z)⟩
            · unfold wpY_put
              exact r.2 _ _ (br_t dt_l0 (br_f n40 (br_t w (dt_ybs hc hs hL hz (br_f (nI_pos (by omega)) ⟨ib, dt_aq b (by omega) rfl (fun _ => h) (fun z => absurd l z)⟩)))))
          · refine ⟨nI c, _, _, dt_wrel (s := s) (d := v2) (par := nI b) (body := v4) (del := 0) (dep := H b + 1) (D := D) (H := H) (B := B) hc' hs (Or.inl rfl) (Or.inr ⟨b, hb, rfl⟩) q qc, fun post h => ?_, fun post h => ?_⟩
            · unfold wpX_put
              refine dt_xrw r hc' (br_t rfl (br_t w (dt_xbl hc hs hL (fun y hy => ?_))))
              rw [dt_bsu hL hz hy]
              refine br_f (dt_nm (by omega)) ⟨ib, dt_aq b (by omega) rfl (fun z => absurd z l) (fun _ => ?_)⟩
              unfold wX_put_64
              exact dt_xw hc' hs (Or.inl rfl) (Or.inr ⟨b, hb, rfl, rfl⟩) h
            · unfold wpY_put
              refine r.2 _ _ (br_t dt_l0 (br_f n40 (br_t w (dt_ybs hc hs hL hz (br_f (nI_pos (by omega)) ⟨ib, dt_aq b (by omega) rfl (fun z => absurd z l) (fun _ => ?_)⟩)))))
              unfold wY_put_59
              exact dt_yw hc' hs (Or.inl rfl) (Or.inr ⟨b, hb, rfl, rfl⟩) h
      · rcases dt_ix v3 hc with o | ⟨j, hj, rfl⟩
        · refine ⟨-4, _, _, dt_rel (D := D) (H := H) (B := B) q qc, fun post h => ?_, fun post h => ?_⟩
          · unfold wpX_put
            exact dt_xrw r hc' (br_t rfl (br_f w (dt_xl0 o (br_t rfl h))))
          · unfold wpY_put
            exact r.2 _ _ (br_t dt_l0 (br_f n40 (br_f w (o.elim (fun a => br_t a h) (fun a => br_f a.1 (br_t a.2 h))))))
        · by_cases l : dt_lf c D P hd s v2 j
          · refine ⟨nI c, _, _, dt_wrel (s := s) (d := v2) (par := nI j) (body := v4) (del := 0) (dep := H j + 1) (D := D) (H := H) (B := B) hc' hs (Or.inl rfl) (Or.inr ⟨j, hj, rfl⟩) q qc, fun post h => ?_, fun post h => ?_⟩
            · unfold wpX_put
              refine dt_xrw r hc' (br_t rfl (br_f w (dt_xl hc hs hj (fun _ => br_f dt_one ?_) (fun z => absurd l z))))
              unfold wX_put_64
              exact dt_xw hc' hs (Or.inl rfl) (Or.inr ⟨j, hj, rfl, rfl⟩) h
            · unfold wpY_put
              exact r.2 _ _ (br_t dt_l0 (br_f n40 (br_f w (br_f (nI_pos (by omega)) (br_f (nI_ge hj (by omega)) (dt_yf hc hs hj (fun _ => br_f dt_one ⟨vp_in_nI (by omega) (by omega), dt_aq j (by omega) rfl (fun _ => dt_yw hc' hs (Or.inl rfl) (Or.inr ⟨j, hj, rfl, rfl⟩) h) (fun z => absurd l.1 z)⟩) (fun z => absurd l.2 z)))))))
          · refine ⟨-4, _, _, dt_rel (D := D) (H := H) (B := B) q qc, fun post h => ?_, fun post h => ?_⟩
            · unfold wpX_put
              exact dt_xrw r hc' (br_t rfl (br_f w (dt_xl hc hs hj (fun z => absurd z l) (fun _ => br_t rfl h))))
            · unfold wpY_put
              exact r.2 _ _ (br_t dt_l0 (br_f n40 (br_f w (br_f (nI_pos (by omega)) (br_f (nI_ge hj (by omega)) (dt_yf hc hs hj (fun y => br_f dt_one ⟨vp_in_nI (by omega) (by omega), dt_aq j (by omega) rfl (fun z => absurd ⟨z, y⟩ l) (fun _ => h)⟩) (fun _ => br_t rfl h)))))))
theorem dt_del (q : dt_Q c P L hd fg rd) (qc : dt_C c hd ch) (v1 v2 v3 : Int32) : ∃ r u' v', i_Rel k u' v' ∧ (∀ post : Int32 → SX → Prop, post r u' → wpX_delete post (nI c, D, P, H, B, L, hd, fg) v1 v2 v3) ∧ (∀ post : Int32 → SY → Prop, post r v' → wpY_delete post (nI c, D, P, H, B, L, hd, rd, ch) v1 v2 v3) := by
  have hc := q.1
  rcases dt_refc v1 v2 with ⟨e, e0, e1, r⟩ | ⟨s, hs, rfl, r⟩
  · refine ⟨e, _, _, dt_rel (D := D) (H := H) (B := B) q qc, fun post h => ?_, fun post h => ?_⟩
    · unfold wpX_delete
      exact dt_xre e0 r (br_f e0 h)
    · unfold wpY_delete
      exact r.2 _ _ (br_f e1 (r.2 _ _ h))
  · by_cases full : c = 40
    · refine ⟨-3, _, _, dt_rel (D := D) (H := H) (B := B) q qc, fun post h => ?_, fun post h => ?_⟩
      · unfold wpX_delete
        exact dt_xrf r full (br_f dt_n3 h)
      · unfold wpY_delete
        exact r.2 _ _ (br_t dt_l0 (br_t (by rw [full]; rfl) h))
    · have hc' : c < 40 := by omega
      have n40 := dt_c40 hc'
      rcases dt_ix v3 hc with o | ⟨j, hj, rfl⟩
      · refine ⟨-4, _, _, dt_rel (D := D) (H := H) (B := B) q qc, fun post h => ?_, fun post h => ?_⟩
        · unfold wpX_delete
          exact dt_xrw r hc' (br_t rfl (dt_xp0 o (br_t rfl h)))
        · unfold wpY_delete
          exact r.2 _ _ (br_t dt_l0 (br_f n40 (o.elim (fun a => br_t a h) (fun a => br_f a.1 (br_t a.2 h)))))
      · have ij : vp_in (nI j) 40 := vp_in_nI (by omega) (by omega)
        by_cases l : dt_lf c D P hd s v2 j ∧ L j = 0
        · refine ⟨nI c, _, _, dt_wrel (s := s) (d := v2) (par := nI j) (body := 0) (del := 1) (dep := H j + 1) (D := D) (H := H) (B := B) hc' hs (Or.inr rfl) (Or.inr ⟨j, hj, rfl⟩) q qc, fun post h => ?_, fun post h => ?_⟩
          · unfold wpX_delete
            exact dt_xrw r hc' (br_t rfl (dt_xp hc hs hj (fun _ => br_f dt_one (dt_xw hc' hs (Or.inr rfl) (Or.inr ⟨j, hj, rfl, rfl⟩) h)) (fun z => absurd l z)))
          · unfold wpY_delete
            exact r.2 _ _ (br_t dt_l0 (br_f n40 (br_f (nI_pos (by omega)) (br_f (nI_ge hj (by omega)) (dt_yf hc hs hj (fun _ => br_f dt_one ⟨ij, dt_aq j (by omega) rfl (fun _ => ⟨ij, dt_aq j (by omega) rfl (fun _ => dt_yw hc' hs (Or.inr rfl) (Or.inr ⟨j, hj, rfl, rfl⟩) h) (fun z => absurd l.2 z)⟩) (fun z => absurd l.1.1 z)⟩) (fun z => absurd l.1.2 z))))))
        · refine ⟨-4, _, _, dt_rel (D := D) (H := H) (B := B) q qc, fun post h => ?_, fun post h => ?_⟩
          · unfold wpX_delete
            exact dt_xrw r hc' (br_t rfl (dt_xp hc hs hj (fun z => absurd z l) (fun _ => br_t rfl h)))
          · unfold wpY_delete
            exact r.2 _ _ (br_t dt_l0 (br_f n40 (br_f (nI_pos (by omega)) (br_f (nI_ge hj (by omega)) (dt_yf hc hs hj (fun y => br_f dt_one ⟨ij, dt_aq j (by omega) rfl (fun z => ⟨ij, dt_aq j (by omega) rfl (fun x => absurd ⟨⟨z, y⟩, x⟩ l) (fun _ => h)⟩) (fun _ => h)⟩) (fun _ => br_t rfl h))))))
theorem dt_brn (q : dt_Q c P L hd fg rd) (qc : dt_C c hd ch) (v1 v2 v3 v4 : Int32) : ∃ r u' v', i_Rel k u' v' ∧ (∀ post : Int32 → SX → Prop, post r u' → wpX_branch post (nI c, D, P, H, B, L, hd, fg) v1 v2 v3 v4) ∧ (∀ post : Int32 → SY → Prop, post r v' → wpY_branch post (nI c, D, P, H, B, L, hd, rd, ch) v1 v2 v3 v4) := by
  have hc := q.1
  rcases dt_refc v1 v2 with ⟨e, e0, e1, r⟩ | ⟨s, hs, rfl, r⟩
  · refine ⟨e, _, _, dt_rel (D := D) (H := H) (B := B) q qc, fun post h => ?_, fun post h => ?_⟩
    · unfold wpX_branch
      exact dt_xre e0 r (br_f e0 h)
    · unfold wpY_branch
      exact r.2 _ _ (br_f e1 (r.2 _ _ h))
  · by_cases full : c = 40
    · refine ⟨-3, _, _, dt_rel (D := D) (H := H) (B := B) q qc, fun post h => ?_, fun post h => ?_⟩
      · unfold wpX_branch
        exact dt_xrf r full (br_f dt_n3 h)
      · unfold wpY_branch
        exact r.2 _ _ (br_t dt_l0 (br_t (by rw [full]; rfl) h))
    · have hc' : c < 40 := by omega
      have n40 := dt_c40 hc'
      rcases dt_ix v3 hc with o | ⟨j, hj, rfl⟩
      · refine ⟨-5, _, _, dt_rel (D := D) (H := H) (B := B) q qc, fun post h => ?_, fun post h => ?_⟩
        · unfold wpX_branch
          exact dt_xrw r hc' (br_t rfl (dt_xo0 o (br_t rfl h)))
        · unfold wpY_branch
          exact r.2 _ _ (br_t dt_l0 (br_f n40 (o.elim (fun a => br_t a h) (fun a => br_f a.1 (br_t a.2 h)))))
      · have ij : vp_in (nI j) 40 := vp_in_nI (by omega) (by omega)
        by_cases l : ¬ hd (s * 40 + j) = 0 ∧ D j = v2
        · refine ⟨nI c, _, _, dt_wrel (s := s) (d := v2) (par := nI j) (body := v4) (del := 0) (dep := H j + 1) (D := D) (H := H) (B := B) hc' hs (Or.inl rfl) (Or.inr ⟨j, hj, rfl⟩) q qc, fun post h => ?_, fun post h => ?_⟩
          · unfold wpX_branch
            exact dt_xrw r hc' (br_t rfl (dt_xo hc hs hj (fun _ _ => br_f dt_one (dt_xw hc' hs (Or.inl rfl) (Or.inr ⟨j, hj, rfl, rfl⟩) h)) (fun z => absurd l z)))
          · unfold wpY_branch
            exact r.2 _ _ (br_t dt_l0 (br_f n40 (br_f (nI_pos (by omega)) (br_f (nI_ge hj (by omega)) (dt_ya hc hs hj (fun _ => br_f dt_one ⟨ij, dt_aq j (by omega) rfl (fun _ => dt_yw hc' hs (Or.inl rfl) (Or.inr ⟨j, hj, rfl, rfl⟩) h) (fun z => absurd l.2 z)⟩) (fun z => absurd z l.1))))))
        · refine ⟨-5, _, _, dt_rel (D := D) (H := H) (B := B) q qc, fun post h => ?_, fun post h => ?_⟩
          · unfold wpX_branch
            exact dt_xrw r hc' (br_t rfl (dt_xo hc hs hj (fun y z => absurd ⟨y, z⟩ l) (fun _ => br_t rfl h)))
          · unfold wpY_branch
            exact r.2 _ _ (br_t dt_l0 (br_f n40 (br_f (nI_pos (by omega)) (br_f (nI_ge hj (by omega)) (dt_ya hc hs hj (fun y => br_f dt_one ⟨ij, dt_aq j (by omega) rfl (fun z => absurd ⟨y, z⟩ l) (fun _ => h)⟩) (fun _ => br_t rfl h))))))
theorem dt_pul (q : dt_Q c P L hd fg rd) (qc : dt_C c hd ch) (v1 v2 : Int32) : ∃ r u' v', i_Rel k u' v' ∧ (∀ post : Int32 → SX → Prop, post r u' → wpX_pull post (nI c, D, P, H, B, L, hd, fg) v1 v2) ∧ (∀ post : Int32 → SY → Prop, post r v' → wpY_pull post (nI c, D, P, H, B, L, hd, rd, ch) v1 v2) := by
  have hc := q.1
  rcases dt_refc v1 v2 with ⟨e, e0, e1, r⟩ | ⟨s, hs, rfl, r⟩
  · refine ⟨e, _, _, dt_rel (D := D) (H := H) (B := B) q qc, fun post h => ?_, fun post h => ?_⟩
    · unfold wpX_pull
      exact r.1 _ (br_f e0 h)
    · unfold wpY_pull
      exact r.2 _ _ (br_f e1 (r.2 _ _ h))
  · have hso : s + (1 - s) = 1 := by omega
    obtain ⟨hd', fg', rd', m, q', c1, c2, hX, hY⟩ := dt_pl0 (D := D) (H := H) (B := B) (ch := ch) (d := v2) hso c 0 hd fg rd 0 (by omega) q
    have qc' : dt_C c hd' (upd ch s (ch s + nI m)) := by
      intro t ht
      by_cases e : t = s
      · subst e
        rw [pk_us, qc t ht, nI_add]
        exact congrArg nI (by omega)
      · rw [pk_un e, qc t ht]
        have e2 : t = 1 - s := by omega
        subst e2
        rw [c2]
    refine ⟨nI m, _, _, dt_rel (D := D) (H := H) (B := B) q' qc', fun post h => ?_, fun post h => ?_⟩
    · unfold wpX_pull
      refine r.1 _ (br_t rfl (nm_r (e' := nI (1 - s)) ?_ ⟨c + 1, hX post h⟩))
      exact pk_sub (a := 1) (by omega)
    · unfold wpY_pull
      exact r.2 _ _ (br_t dt_l0 ⟨c + 1, hY post h⟩)
theorem dt_cmp (q : dt_Q c P L hd fg rd) (qc : dt_C c hd ch) (v1 : Int32) : ∃ r u' v', i_Rel k u' v' ∧ (∀ post : Int32 → SX → Prop, post r u' → wpX_compact post (nI c, D, P, H, B, L, hd, fg) v1) ∧ (∀ post : Int32 → SY → Prop, post r v' → wpY_compact post (nI c, D, P, H, B, L, hd, rd, ch) v1) := by
  have hc := q.1
  rcases dt_site v1 with b | ⟨s, hs, rfl⟩
  · refine ⟨-1, _, _, dt_rel (D := D) (H := H) (B := B) q qc, fun post h => ?_, fun post h => ?_⟩
    · unfold wpX_compact
      exact dt_xs0 b (br_t rfl h)
    · unfold wpY_compact
      exact dt_ys0 b (br_f dt_one h)
  · obtain ⟨fg', rd', m, q', hX, hY⟩ := dt_cp0 (D := D) (H := H) (B := B) (ch := ch) hs c 0 fg rd 0 (by omega) q
    refine ⟨nI m, _, _, dt_rel (D := D) (H := H) (B := B) q' qc, fun post h => ?_, fun post h => ?_⟩
    · unfold wpX_compact
      exact dt_xs hs (br_f dt_one ⟨c + 1, hX post h⟩)
    · unfold wpY_compact
      exact dt_ys hs (br_t rfl ⟨c + 1, hY post h⟩)
end
end
section
section
variable {c k : Nat} {D P H B L hd fg rd ch : Nat → Int32}
theorem dt_win (q : dt_Q c P L hd fg rd) (v1 v2 : Int32) : ∃ r, (∀ post : Int32 → Prop, post r → wpX_winner post (nI c, D, P, H, B, L, hd, fg) v1 v2) ∧ (∀ post : Int32 → Prop, post r → wpY_winner post (nI c, D, P, H, B, L, hd, rd, ch) v1 v2) := by
  have hc := q.1
  have hL := q.2.2.1
  rcases dt_refc v1 v2 with ⟨e, e0, e1, r⟩ | ⟨s, hs, rfl, r⟩
  · refine ⟨e, fun post h => ?_, fun post h => ?_⟩
    · unfold wpX_winner
      exact r.1 _ (br_f e0 h)
    · unfold wpY_winner
      exact r.2 _ _ (br_f e1 (r.2 _ _ h))
  · obtain ⟨z, hz⟩ := dt_bix (H := H) (B := B) hL (dt_lf c D P hd s v2) c
    have hz := dt_fin hL hz
    rcases id hz with ⟨rfl, -⟩ | ⟨b, hb, rfl, -, -⟩
    · refine ⟨-5, fun post h => ?_, fun post h => ?_⟩
      · unfold wpX_winner
        refine r.1 _ (br_t rfl (dt_xbl hc hs hL (fun y hy => ?_)))
        rw [dt_bsu hL hz hy]
        exact br_t rfl h
      · unfold wpY_winner
        exact r.2 _ _ (br_t dt_l0 (dt_ybs hc hs hL hz (br_f (by decide) h)))
    · refine ⟨nI b, fun post h => ?_, fun post h => ?_⟩
      · unfold wpX_winner
        refine r.1 _ (br_t rfl (dt_xbl hc hs hL (fun y hy => ?_)))
        rw [dt_bsu hL hz hy]
        exact br_f (dt_nm (by omega)) h
      · unfold wpY_winner
        exact r.2 _ _ (br_t dt_l0 (dt_ybs hc hs hL hz (br_t (nI_pos' (by omega)) h)))
theorem dt_cfs (q : dt_Q c P L hd fg rd) (v1 v2 : Int32) : ∃ r, (∀ post : Int32 → Prop, post r → wpX_conflicts post (nI c, D, P, H, B, L, hd, fg) v1 v2) ∧ (∀ post : Int32 → Prop, post r → wpY_conflicts post (nI c, D, P, H, B, L, hd, rd, ch) v1 v2) := by
  have hc := q.1
  rcases dt_refc v1 v2 with ⟨e, e0, e1, r⟩ | ⟨s, hs, rfl, r⟩
  · refine ⟨e, fun post h => ?_, fun post h => ?_⟩
    · unfold wpX_conflicts
      exact r.1 _ (br_f e0 h)
    · unfold wpY_conflicts
      exact r.2 _ _ (br_f e1 (r.2 _ _ h))
  · by_cases z : dt_cn (fun q => dt_lf c D P hd s v2 q ∧ L q = 0) c = 0
    · refine ⟨0, fun post h => ?_, fun post h => ?_⟩
      · unfold wpX_conflicts
        exact r.1 _ (br_t rfl ⟨c + 1, dt_xcf hc hs (fun _ => h) (fun y => absurd z y) c 0 0 (by omega) rfl⟩)
      · unfold wpY_conflicts
        exact r.2 _ _ (br_t dt_l0 ⟨c + 1, dt_ycf hc hs (fun _ => h) (fun y => absurd z y) c 0 0 (by omega) rfl⟩)
    · refine ⟨nI (dt_cn (fun q => dt_lf c D P hd s v2 q ∧ L q = 0) c) - 1, fun post h => ?_, fun post h => ?_⟩
      · unfold wpX_conflicts
        exact r.1 _ (br_t rfl ⟨c + 1, dt_xcf hc hs (fun y => absurd y z) (fun _ => h) c 0 0 (by omega) rfl⟩)
      · unfold wpY_conflicts
        exact r.2 _ _ (br_t dt_l0 ⟨c + 1, dt_ycf hc hs (fun y => absurd y z) (fun _ => h) c 0 0 (by omega) rfl⟩)
theorem dt_cfl (q : dt_Q c P L hd fg rd) (v1 v2 v3 : Int32) : ∃ r, (∀ post : Int32 → Prop, post r → wpX_conflict post (nI c, D, P, H, B, L, hd, fg) v1 v2 v3) ∧ (∀ post : Int32 → Prop, post r → wpY_conflict post (nI c, D, P, H, B, L, hd, rd, ch) v1 v2 v3) := by
  have hc := q.1
  have hL := q.2.2.1
  rcases dt_refc v1 v2 with ⟨e, e0, e1, r⟩ | ⟨s, hs, rfl, r⟩
  · refine ⟨e, fun post h => ?_, fun post h => ?_⟩
    · unfold wpX_conflict
      exact r.1 _ (br_f e0 h)
    · unfold wpY_conflict
      exact r.2 _ _ (br_f e1 (r.2 _ _ h))
  · by_cases v : v3 < 0
    · refine ⟨-5, fun post h => ?_, fun post h => ?_⟩
      · unfold wpX_conflict
        exact r.1 _ (br_t rfl (br_f (Int32.not_le.mpr v) h))
      · unfold wpY_conflict
        exact r.2 _ _ (br_t dt_l0 ⟨c + 1, dt_cfn hc hs hL v h c 0 (by omega)⟩)
    · obtain ⟨z, hX, hY⟩ := dt_cf0 (D := D) (P := P) (H := H) (B := B) (hd := hd) (fg := fg) (rd := rd) (ch := ch) (d := v2) hc hs hL v c 0 (by omega)
      refine ⟨z, fun post h => ?_, fun post h => ?_⟩
      · unfold wpX_conflict
        exact r.1 _ (br_t rfl (br_t (Int32.not_lt.mp v) ⟨c + 1, hX post h⟩))
      · unfold wpY_conflict
        exact r.2 _ _ (br_t dt_l0 ⟨c + 1, hY post h⟩)
theorem dt_lvs (q : dt_Q c P L hd fg rd) (v1 v2 : Int32) : ∃ r, (∀ post : Int32 → Prop, post r → wpX_leaves post (nI c, D, P, H, B, L, hd, fg) v1 v2) ∧ (∀ post : Int32 → Prop, post r → wpY_leaves post (nI c, D, P, H, B, L, hd, rd, ch) v1 v2) := by
  have hc := q.1
  rcases dt_refc v1 v2 with ⟨e, e0, e1, r⟩ | ⟨s, hs, rfl, r⟩
  · refine ⟨e, fun post h => ?_, fun post h => ?_⟩
    · unfold wpX_leaves
      exact r.1 _ (br_f e0 h)
    · unfold wpY_leaves
      exact r.2 _ _ (br_f e1 (r.2 _ _ h))
  · refine ⟨nI (dt_cn (dt_lf c D P hd s v2) c), fun post h => ?_, fun post h => ?_⟩
    · unfold wpX_leaves
      exact r.1 _ (br_t rfl ⟨c + 1, dt_xlv hc hs h c 0 0 (by omega) rfl⟩)
    · unfold wpY_leaves
      exact r.2 _ _ (br_t dt_l0 ⟨c + 1, dt_ylv hc hs h c 0 0 (by omega) rfl⟩)
theorem dt_yr0 {post : Int32 → Prop} {v1 v2 : Int32} (hb : dt_bad v1) (h : post 0) : wpY_readable post (nI c, D, P, H, B, L, hd, rd, ch) v1 v2 := by
  unfold wpY_readable
  exact dt_ys0 hb (br_f dt_one h)
theorem dt_yr1 {post : Int32 → Prop} {s : Nat} {v2 : Int32} (hs : s < 2) (o : dt_out c v2) (h : post 0) : wpY_readable post (nI c, D, P, H, B, L, hd, rd, ch) (nI s) v2 := by
  unfold wpY_readable
  exact dt_ys hs (br_t rfl (dt_ya0 o (br_t rfl h)))
theorem dt_yr {post : Int32 → Prop} {s j : Nat} (q : dt_Q c P L hd fg rd) (hs : s < 2) (hj : j < c) (hT : ¬ rd (s * 40 + j) = 0 → post 1) (hF : rd (s * 40 + j) = 0 → post 0) : wpY_readable post (nI c, D, P, H, B, L, hd, rd, ch) (nI s) (nI j) := by
  have hc := q.1
  have z0 : hd (s * 40 + j) = 0 → rd (s * 40 + j) = 0 := by
    intro z
    rcases q.2.2.2.1 (s * 40 + j) with y | y
    · exact y.2.1
    · exact absurd (y.1.symm.trans z) dt_one
  unfold wpY_readable
  exact dt_ys hs (br_t rfl (dt_ya hc hs hj (fun _ => br_f dt_one ⟨pk_in (s * 40 + j) 80 (by omega) (dt_pl s j), dt_aq (s * 40 + j) (by omega) (dt_pl s j) hF hT⟩) (fun z => br_t rfl (hF (z0 z)))))
theorem dt_xr {post : Int32 → Prop} {s j : Nat} (q : dt_Q c P L hd fg rd) (hs : s < 2) (hj : j < c) (hT : ¬ rd (s * 40 + j) = 0 → post 1) (hF : rd (s * 40 + j) = 0 → post 0) : wpX_canRead post (nI c, D, P, H, B, L, hd, fg) (nI s) (nI j) := by
  refine dt_xc q.1 hs hj (fun a b => hT (fun z => ?_)) (fun a => hF ?_)
  · rcases q.2.2.2.1 (s * 40 + j) with y | ⟨-, y | y⟩
    · exact a y.1
    · exact dt_one (y.1.symm.trans z)
    · exact dt_one (y.2.symm.trans b)
  · rcases q.2.2.2.1 (s * 40 + j) with y | ⟨w, y | y⟩
    · exact y.2.1
    · exact absurd ⟨by rw [w]; exact dt_one, y.2⟩ a
    · exact y.1
theorem dt_rdb (q : dt_Q c P L hd fg rd) (v1 v2 : Int32) : ∃ r, (∀ post : Int32 → Prop, post r → wpX_readable post (nI c, D, P, H, B, L, hd, fg) v1 v2) ∧ (∀ post : Int32 → Prop, post r → wpY_readable post (nI c, D, P, H, B, L, hd, rd, ch) v1 v2) := by
  have hc := q.1
  rcases dt_site v1 with b | ⟨s, hs, rfl⟩
  · refine ⟨0, fun post h => ?_, fun post h => dt_yr0 b h⟩
    unfold wpX_readable
    exact dt_xs0 b (br_t rfl h)
  · rcases dt_ix v2 hc with o | ⟨j, hj, rfl⟩
    · refine ⟨0, fun post h => ?_, fun post h => dt_yr1 hs o h⟩
      unfold wpX_readable
      exact dt_xs hs (br_f dt_one (dt_xc0 o (br_t rfl h)))
    · by_cases z : rd (s * 40 + j) = 0
      · refine ⟨0, fun post h => ?_, fun post h => dt_yr q hs hj (fun y => absurd z y) (fun _ => h)⟩
        unfold wpX_readable
        exact dt_xs hs (br_f dt_one (dt_xr q hs hj (fun y => absurd z y) (fun _ => br_t rfl h)))
      · refine ⟨1, fun post h => ?_, fun post h => dt_yr q hs hj (fun _ => h) (fun y => absurd y z)⟩
        unfold wpX_readable
        exact dt_xs hs (br_f dt_one (dt_xr q hs hj (fun _ => br_f dt_one h) (fun y => absurd y z)))
theorem dt_bdy (q : dt_Q c P L hd fg rd) (v1 v2 : Int32) : ∃ r, (∀ post : Int32 → Prop, post r → wpX_body post (nI c, D, P, H, B, L, hd, fg) v1 v2) ∧ (∀ post : Int32 → Prop, post r → wpY_body post (nI c, D, P, H, B, L, hd, rd, ch) v1 v2) := by
  have hc := q.1
  rcases dt_site v1 with b | ⟨s, hs, rfl⟩
  · refine ⟨0, fun post h => ?_, fun post h => ?_⟩
    · unfold wpX_body
      exact dt_xs0 b (br_t rfl h)
    · unfold wpY_body
      exact dt_yr0 b (br_t rfl h)
  · rcases dt_ix v2 hc with o | ⟨j, hj, rfl⟩
    · refine ⟨0, fun post h => ?_, fun post h => ?_⟩
      · unfold wpX_body
        exact dt_xs hs (br_f dt_one (dt_xc0 o (br_t rfl h)))
      · unfold wpY_body
        exact dt_yr1 hs o (br_t rfl h)
    · have ij : vp_in (nI j) 40 := vp_in_nI (by omega) (by omega)
      by_cases z : rd (s * 40 + j) = 0
      · refine ⟨0, fun post h => ?_, fun post h => ?_⟩
        · unfold wpX_body
          exact dt_xs hs (br_f dt_one (dt_xr q hs hj (fun y => absurd z y) (fun _ => br_t rfl h)))
        · unfold wpY_body
          exact dt_yr q hs hj (fun y => absurd z y) (fun _ => br_t rfl h)
      · refine ⟨B j, fun post h => ?_, fun post h => ?_⟩
        · unfold wpX_body
          exact dt_xs hs (br_f dt_one (dt_xr q hs hj (fun _ => br_f dt_one ⟨ij, dt_ap j (by omega) rfl h⟩) (fun y => absurd y z)))
        · unfold wpY_body
          exact dt_yr q hs hj (fun _ => br_f dt_one ⟨ij, dt_ap j (by omega) rfl h⟩) (fun y => absurd y z)
theorem dt_dep (q : dt_Q c P L hd fg rd) (v1 : Int32) : ∃ r, (∀ post : Int32 → Prop, post r → wpX_depth post (nI c, D, P, H, B, L, hd, fg) v1) ∧ (∀ post : Int32 → Prop, post r → wpY_depth post (nI c, D, P, H, B, L, hd, rd, ch) v1) := by
  have hc := q.1
  rcases dt_ix v1 hc with o | ⟨j, hj, rfl⟩
  · refine ⟨-5, fun post h => ?_, fun post h => ?_⟩
    · unfold wpX_depth
      exact dt_xe0 o (br_t rfl h)
    · unfold wpY_depth
      exact dt_yn0 o (br_f dt_one h)
  · have ij : vp_in (nI j) 40 := vp_in_nI (by omega) (by omega)
    refine ⟨H j, fun post h => ?_, fun post h => ?_⟩
    · unfold wpX_depth
      exact dt_xe1 hc hj (br_f dt_one ⟨ij, dt_ap j (by omega) rfl h⟩)
    · unfold wpY_depth
      exact dt_yn hc hj (br_t rfl ⟨ij, dt_ap j (by omega) rfl h⟩)
theorem dt_chg (q : dt_Q c P L hd fg rd) (qc : dt_C c hd ch) (v1 : Int32) : ∃ r, (∀ post : Int32 → Prop, post r → wpX_changes post (nI c, D, P, H, B, L, hd, fg) v1) ∧ (∀ post : Int32 → Prop, post r → wpY_changes post (nI c, D, P, H, B, L, hd, rd, ch) v1) := by
  have hc := q.1
  rcases dt_site v1 with b | ⟨s, hs, rfl⟩
  · refine ⟨-1, fun post h => ?_, fun post h => ?_⟩
    · unfold wpX_changes
      exact dt_xs0 b (br_t rfl h)
    · unfold wpY_changes
      exact dt_ys0 b (br_f dt_one h)
  · refine ⟨nI (dt_cn (fun r => ¬ hd (s * 40 + r) = 0) c), fun post h => ?_, fun post h => ?_⟩
    · unfold wpX_changes
      exact dt_xs hs (br_f dt_one ⟨c + 1, dt_xch hc hs h c 0 0 (by omega) rfl⟩)
    · unfold wpY_changes
      refine dt_ys hs (br_t rfl ⟨vp_in_nI hs (by omega), dt_ap s (by omega) rfl ?_⟩)
      rw [qc s hs]
      exact h
theorem dt_com {R : Prop} (hR : R) (q : dt_Q c P L hd fg rd) (v1 v2 : Int32) : wpX_common (fun r => wpY_common (fun r' => r' = r ∧ R) (nI c, D, P, H, B, L, hd, rd, ch) v1 v2) (nI c, D, P, H, B, L, hd, fg) v1 v2 := by
  have hc := q.1
  have hP := q.2.1
  unfold wpX_common
  rcases dt_ix v1 hc with o | ⟨a, ha, rfl⟩
  · refine dt_xe0 o (br_t rfl ?_)
    unfold wpY_common
    exact dt_yn0 o (br_f dt_one ⟨rfl, hR⟩)
  · rcases dt_ix v2 hc with o | ⟨b, hb, rfl⟩
    · refine dt_xe1 hc ha (br_f dt_one (dt_xe0 o (br_t rfl ?_)))
      unfold wpY_common
      exact dt_yn hc ha (br_t rfl (dt_yn0 o (br_f dt_one ⟨rfl, hR⟩)))
    · refine dt_xe1 hc ha (br_f dt_one (dt_xe1 hc hb (br_f dt_one ⟨81, ?_⟩)))
      rw [← show dt_en (a + 1) = nI a from nI_pred a, ← show dt_en (b + 1) = nI b from nI_pred b]
      refine dt_xcm0 (a := a + 1) (b := b + 1) hc hP (fun m hm hx => ?_) 80 0 (a + 1) (b + 1) (by omega) (by omega) (by omega) (by omega) (fun x => Iff.rfl)
      rw [show dt_en (a + 1) = nI a from nI_pred a, show dt_en (b + 1) = nI b from nI_pred b]
      unfold wpY_common
      exact dt_yn hc ha (br_t rfl (dt_yn hc hb (br_t rfl ⟨c + 1, dt_ycm0 (post := fun r' => r' = dt_an m ∧ R) hc ha hb hm hP hx ⟨rfl, hR⟩ c 0 (-5) (by omega) (fun z => by rw [show m = 0 by omega]; rfl)⟩)))
end
end
section
theorem i_vc_put {k : Nat} {u : SX} {v : SY} (I : i_Rel k u v) (hk : k + 5 ≤ 2560) (v1 : Int32) (v2 : Int32) (v3 : Int32) (v4 : Int32) : wpX_put (fun r u' => wpY_put (fun r' v' => r' = r ∧ i_Rel (k + 5) u' v') v v1 v2 v3 v4) u v1 v2 v3 v4 := by
  obtain ⟨c, D, P, H, B, L, hd, fg, rd, ch, rfl, rfl, q, qc⟩ := I
  obtain ⟨r, u', v', R, hX, hY⟩ := dt_put (k := k + 5) (D := D) (H := H) (B := B) q qc v1 v2 v3 v4
  exact hX _ (hY _ ⟨rfl, R⟩)
theorem i_vc_delete {k : Nat} {u : SX} {v : SY} (I : i_Rel k u v) (hk : k + 5 ≤ 2560) (v1 : Int32) (v2 : Int32) (v3 : Int32) : wpX_delete (fun r u' => wpY_delete (fun r' v' => r' = r ∧ i_Rel (k + 5) u' v') v v1 v2 v3) u v1 v2 v3 := by
  obtain ⟨c, D, P, H, B, L, hd, fg, rd, ch, rfl, rfl, q, qc⟩ := I
  obtain ⟨r, u', v', R, hX, hY⟩ := dt_del (k := k + 5) (D := D) (H := H) (B := B) q qc v1 v2 v3
  exact hX _ (hY _ ⟨rfl, R⟩)
theorem i_vc_branch {k : Nat} {u : SX} {v : SY} (I : i_Rel k u v) (hk : k + 5 ≤ 2560) (v1 : Int32) (v2 : Int32) (v3 : Int32) (v4 : Int32) : wpX_branch (fun r u' => wpY_branch (fun r' v' => r' = r ∧ i_Rel (k + 5) u' v') v v1 v2 v3 v4) u v1 v2 v3 v4 := by
  obtain ⟨c, D, P, H, B, L, hd, fg, rd, ch, rfl, rfl, q, qc⟩ := I
  obtain ⟨r, u', v', R, hX, hY⟩ := dt_brn (k := k + 5) (D := D) (H := H) (B := B) q qc v1 v2 v3 v4
  exact hX _ (hY _ ⟨rfl, R⟩)
theorem i_vc_pull {k : Nat} {u : SX} {v : SY} (I : i_Rel k u v) (hk : k + 5 ≤ 2560) (v1 : Int32) (v2 : Int32) : wpX_pull (fun r u' => wpY_pull (fun r' v' => r' = r ∧ i_Rel (k + 5) u' v') v v1 v2) u v1 v2 := by
  obtain ⟨c, D, P, H, B, L, hd, fg, rd, ch, rfl, rfl, q, qc⟩ := I
  obtain ⟨r, u', v', R, hX, hY⟩ := dt_pul (k := k + 5) (D := D) (H := H) (B := B) q qc v1 v2
  exact hX _ (hY _ ⟨rfl, R⟩)
theorem i_vc_compact {k : Nat} {u : SX} {v : SY} (I : i_Rel k u v) (hk : k + 5 ≤ 2560) (v1 : Int32) : wpX_compact (fun r u' => wpY_compact (fun r' v' => r' = r ∧ i_Rel (k + 5) u' v') v v1) u v1 := by
  obtain ⟨c, D, P, H, B, L, hd, fg, rd, ch, rfl, rfl, q, qc⟩ := I
  obtain ⟨r, u', v', R, hX, hY⟩ := dt_cmp (k := k + 5) (D := D) (H := H) (B := B) q qc v1
  exact hX _ (hY _ ⟨rfl, R⟩)
theorem i_vc_winner {k : Nat} {u : SX} {v : SY} (I : i_Rel k u v) (hk : k + 5 ≤ 2560) (v1 : Int32) (v2 : Int32) : wpX_winner (fun r => wpY_winner (fun r' => r' = r ∧ i_Rel (k + 5) u v) v v1 v2) u v1 v2 := by
  have R := i_up I
  obtain ⟨c, D, P, H, B, L, hd, fg, rd, ch, rfl, rfl, q, qc⟩ := I
  obtain ⟨r, hX, hY⟩ := dt_win (D := D) (H := H) (B := B) (ch := ch) q v1 v2
  exact hX _ (hY _ ⟨rfl, R⟩)
theorem i_vc_conflicts {k : Nat} {u : SX} {v : SY} (I : i_Rel k u v) (hk : k + 5 ≤ 2560) (v1 : Int32) (v2 : Int32) : wpX_conflicts (fun r => wpY_conflicts (fun r' => r' = r ∧ i_Rel (k + 5) u v) v v1 v2) u v1 v2 := by
  have R := i_up I
  obtain ⟨c, D, P, H, B, L, hd, fg, rd, ch, rfl, rfl, q, qc⟩ := I
  obtain ⟨r, hX, hY⟩ := dt_cfs (D := D) (H := H) (B := B) (ch := ch) q v1 v2
  exact hX _ (hY _ ⟨rfl, R⟩)
theorem i_vc_conflict {k : Nat} {u : SX} {v : SY} (I : i_Rel k u v) (hk : k + 5 ≤ 2560) (v1 : Int32) (v2 : Int32) (v3 : Int32) : wpX_conflict (fun r => wpY_conflict (fun r' => r' = r ∧ i_Rel (k + 5) u v) v v1 v2 v3) u v1 v2 v3 := by
  have R := i_up I
  obtain ⟨c, D, P, H, B, L, hd, fg, rd, ch, rfl, rfl, q, qc⟩ := I
  obtain ⟨r, hX, hY⟩ := dt_cfl (D := D) (H := H) (B := B) (ch := ch) q v1 v2 v3
  exact hX _ (hY _ ⟨rfl, R⟩)
theorem i_vc_leaves {k : Nat} {u : SX} {v : SY} (I : i_Rel k u v) (hk : k + 5 ≤ 2560) (v1 : Int32) (v2 : Int32) : wpX_leaves (fun r => wpY_leaves (fun r' => r' = r ∧ i_Rel (k + 5) u v) v v1 v2) u v1 v2 := by
  have R := i_up I
  obtain ⟨c, D, P, H, B, L, hd, fg, rd, ch, rfl, rfl, q, qc⟩ := I
  obtain ⟨r, hX, hY⟩ := dt_lvs (D := D) (H := H) (B := B) (ch := ch) q v1 v2
  exact hX _ (hY _ ⟨rfl, R⟩)
theorem i_vc_readable {k : Nat} {u : SX} {v : SY} (I : i_Rel k u v) (hk : k + 5 ≤ 2560) (v1 : Int32) (v2 : Int32) : wpX_readable (fun r => wpY_readable (fun r' => r' = r ∧ i_Rel (k + 5) u v) v v1 v2) u v1 v2 := by
  have R := i_up I
  obtain ⟨c, D, P, H, B, L, hd, fg, rd, ch, rfl, rfl, q, qc⟩ := I
  obtain ⟨r, hX, hY⟩ := dt_rdb (D := D) (H := H) (B := B) (ch := ch) q v1 v2
  exact hX _ (hY _ ⟨rfl, R⟩)
theorem i_vc_body {k : Nat} {u : SX} {v : SY} (I : i_Rel k u v) (hk : k + 5 ≤ 2560) (v1 : Int32) (v2 : Int32) : wpX_body (fun r => wpY_body (fun r' => r' = r ∧ i_Rel (k + 5) u v) v v1 v2) u v1 v2 := by
  have R := i_up I
  obtain ⟨c, D, P, H, B, L, hd, fg, rd, ch, rfl, rfl, q, qc⟩ := I
  obtain ⟨r, hX, hY⟩ := dt_bdy (D := D) (H := H) (B := B) (ch := ch) q v1 v2
  exact hX _ (hY _ ⟨rfl, R⟩)
theorem i_vc_depth {k : Nat} {u : SX} {v : SY} (I : i_Rel k u v) (hk : k + 5 ≤ 2560) (v1 : Int32) : wpX_depth (fun r => wpY_depth (fun r' => r' = r ∧ i_Rel (k + 5) u v) v v1) u v1 := by
  have R := i_up I
  obtain ⟨c, D, P, H, B, L, hd, fg, rd, ch, rfl, rfl, q, qc⟩ := I
  obtain ⟨r, hX, hY⟩ := dt_dep (D := D) (H := H) (B := B) (ch := ch) q v1
  exact hX _ (hY _ ⟨rfl, R⟩)
theorem i_vc_common {k : Nat} {u : SX} {v : SY} (I : i_Rel k u v) (hk : k + 5 ≤ 2560) (v1 : Int32) (v2 : Int32) : wpX_common (fun r => wpY_common (fun r' => r' = r ∧ i_Rel (k + 5) u v) v v1 v2) u v1 v2 := by
  have R := i_up I
  obtain ⟨c, D, P, H, B, L, hd, fg, rd, ch, rfl, rfl, q, qc⟩ := I
  exact dt_com R q v1 v2
theorem i_vc_changes {k : Nat} {u : SX} {v : SY} (I : i_Rel k u v) (hk : k + 5 ≤ 2560) (v1 : Int32) : wpX_changes (fun r => wpY_changes (fun r' => r' = r ∧ i_Rel (k + 5) u v) v v1) u v1 := by
  have R := i_up I
  obtain ⟨c, D, P, H, B, L, hd, fg, rd, ch, rfl, rfl, q, qc⟩ := I
  obtain ⟨r, hX, hY⟩ := dt_chg (D := D) (H := H) (B := B) q qc v1
  exact hX _ (hY _ ⟨rfl, R⟩)
end
