theorem pk_us {f : Nat → Int32} {k : Nat} {x : Int32} : upd f k x k = x := if_pos rfl
theorem pk_un {f : Nat → Int32} {k j : Nat} {x : Int32} (h : j ≠ k) : upd f k x j = f j := if_neg h
theorem pk_sub {a b : Nat} (h : b ≤ a) : nI a - nI b = nI (a - b) := by
  obtain ⟨c, rfl⟩ : ∃ c, a = c + b := ⟨a - b, by omega⟩
  rw [← nI_add, Int32.add_sub_cancel, Nat.add_sub_cancel]
theorem pk_mul (a b : Nat) : nI a * nI b = nI (a * b) := (Int32.ofNat_mul a b).symm
theorem pk_ix (x : Int32) {n : Nat} (hn : n < 2 ^ 31) : x < 0 ∨ nI n ≤ x ∨ ∃ j : Nat, j < n ∧ x = nI j := by
  by_cases h : x < 0
  · exact Or.inl h
  · obtain ⟨j, hj, rfl⟩ := nI_of h
    by_cases h2 : j < n
    · exact Or.inr (Or.inr ⟨j, h2, rfl⟩)
    · exact Or.inr (Or.inl (nI_le (by omega) hj))
theorem pk_in {x : Int32} (n N : Nat) (h : n < N) (hx : x = nI n := by rfl) (hN : N < 2 ^ 31 := by omega) : vp_in x N := by
  subst hx
  exact vp_in_nI h hN
theorem dt_one : ¬ (1 : Int32) = 0 := by decide
theorem dt_vb {z : Int32} (h : z = 0 ∨ z = 1) : vp_nar .boolean z = z := by rcases h with rfl | rfl <;> decide
theorem dt_vb1 : vp_nar .boolean 1 = 1 := by decide
theorem dt_vb0 : vp_nar .boolean 0 = 0 := by decide
theorem dt_nb {z : Int32} (h : z = 0 ∨ z = 1) : narrow .boolean (.int z) = .int z := by rcases h with rfl | rfl <;> rfl
theorem dt_pl (s r : Nat) : nI s * 40 + nI r = nI (s * 40 + r) := by
  rw [show (40 : Int32) = nI 40 from rfl, pk_mul, nI_add]
theorem dt_nm {b : Nat} (hb : b < 2 ^ 31) : ¬ nI b = -1 := fun e => nI_pos hb (by rw [e]; decide)
theorem dt_aq {a : Nat → Int32} {v x : Int32} {A B : Prop} (j : Nat) (hj : j < 2 ^ 31) (hx : x = nI j) (f : a j = v → A) (g : ¬ a j = v → B) : (a x.toNatClampNeg = v → A) ∧ (¬ a x.toNatClampNeg = v → B) := by
  subst hx
  rw [nI_clamp hj]
  exact ⟨f, g⟩
theorem dt_ap {a : Nat → Int32} {x : Int32} {A : Int32 → Prop} (j : Nat) (hj : j < 2 ^ 31) (hx : x = nI j) (f : A (a j)) : A (a x.toNatClampNeg) := by
  subst hx
  rw [nI_clamp hj]
  exact f
noncomputable def dt_cn (p : Nat → Prop) : Nat → Nat
  | 0 => 0
  | n + 1 => dt_cn p n + @ite Nat (p n) (Classical.propDecidable (p n)) 1 0
theorem dt_ct {p : Nat → Prop} {m n : Nat} (hm : m = dt_cn p n) (h : p n) : m + 1 = dt_cn p (n + 1) := by
  simp [dt_cn, h, hm]
theorem dt_cf {p : Nat → Prop} {m n : Nat} (hm : m = dt_cn p n) (h : ¬ p n) : m = dt_cn p (n + 1) := by
  simp [dt_cn, h, hm]
theorem dt_cn_le (p : Nat → Prop) : ∀ n, dt_cn p n ≤ n := by
  intro n
  induction n with
  | zero => exact Nat.le_refl 0
  | succ n ih =>
    by_cases h : p n
    · rw [← dt_ct rfl h]; omega
    · rw [← dt_cf rfl h]; omega
theorem dt_cn_congr {p q : Nat → Prop} : ∀ n, (∀ i, i < n → (p i ↔ q i)) → dt_cn p n = dt_cn q n := by
  intro n
  induction n with
  | zero => intro _; rfl
  | succ n ih =>
    intro h
    have e := ih (fun i hi => h i (by omega))
    by_cases hp : p n
    · rw [← dt_ct rfl hp, ← dt_ct rfl ((h n (by omega)).mp hp), e]
    · rw [← dt_cf rfl hp, ← dt_cf rfl (fun z => hp ((h n (by omega)).mpr z)), e]
theorem dt_cn_0 {p : Nat → Prop} : ∀ n, dt_cn p n = 0 ↔ ∀ i, i < n → ¬ p i := by
  intro n
  induction n with
  | zero => exact ⟨fun _ i hi => absurd hi (Nat.not_lt_zero i), fun _ => rfl⟩
  | succ n ih =>
    by_cases hp : p n
    · rw [← dt_ct rfl hp]
      exact ⟨fun h => by omega, fun h => absurd hp (h n (by omega))⟩
    · rw [← dt_cf rfl hp, ih]
      refine ⟨fun h i hi => ?_, fun h i hi => h i (by omega)⟩
      by_cases e : i = n
      · rw [e]; exact hp
      · exact h i (by omega)
theorem dt_cn_up {p q : Nat → Prop} {a : Nat} (hp : ¬ p a) (hq : q a) (h : ∀ i, i ≠ a → (p i ↔ q i)) : ∀ n, a < n → dt_cn q n = dt_cn p n + 1 := by
  intro n
  induction n with
  | zero => intro h0; omega
  | succ n ih =>
    intro ha
    by_cases e : a = n
    · subst e
      rw [← dt_ct rfl hq, ← dt_cf rfl hp, dt_cn_congr a (fun i hi => (h i (by omega)))]
    · have e2 := ih (by omega)
      by_cases hn : p n
      · rw [← dt_ct rfl hn, ← dt_ct rfl ((h n (fun z => e z.symm)).mp hn), e2]
      · rw [← dt_cf rfl hn, ← dt_cf rfl (fun z => hn ((h n (fun z => e z.symm)).mpr z)), e2]
def dt_kid (c : Nat) (P hd : Nat → Int32) (s r : Nat) : Prop := ∃ k, k < c ∧ P k = nI r ∧ ¬ hd (s * 40 + k) = 0
def dt_yl (c : Nat) (P hd : Nat → Int32) (s r : Nat) : Prop := ¬ hd (s * 40 + r) = 0 ∧ ¬ dt_kid c P hd s r
def dt_lf (c : Nat) (D P hd : Nat → Int32) (s : Nat) (d : Int32) (r : Nat) : Prop := D r = d ∧ dt_yl c P hd s r
def dt_bt (H B L : Nat → Int32) (a b : Nat) : Prop :=
  (¬ L a = L b ∧ ¬ L b = 0) ∨ (L a = L b ∧ ((¬ H a = H b ∧ ¬ H a ≤ H b) ∨ (H a = H b ∧ ((¬ B a = B b ∧ ¬ B a ≤ B b) ∨ (B a = B b ∧ b < a)))))
theorem dt_01 {z : Int32} (h : z = 0 ∨ z = 1) : z.toInt = 0 ∨ z.toInt = 1 := by rcases h with rfl | rfl <;> decide
theorem dt_z0 : (0 : Int32).toInt = 0 := rfl
theorem dt_irr {H B L : Nat → Int32} (a : Nat) : ¬ dt_bt H B L a a := by
  simp [dt_bt]
theorem dt_tot {H B L : Nat → Int32} (hL : ∀ r, L r = 0 ∨ L r = 1) {a b : Nat} (h : a ≠ b) : dt_bt H B L a b ∨ dt_bt H B L b a := by
  have h1 := dt_01 (hL a)
  have h2 := dt_01 (hL b)
  simp only [dt_bt, Int32.le_iff_toInt_le, ← Int32.toInt_inj, dt_z0]
  omega
theorem dt_tr {H B L : Nat → Int32} (hL : ∀ r, L r = 0 ∨ L r = 1) {a b e : Nat} (h : dt_bt H B L a b) (h' : dt_bt H B L b e) : dt_bt H B L a e := by
  have h1 := dt_01 (hL a)
  have h2 := dt_01 (hL b)
  have h3 := dt_01 (hL e)
  simp only [dt_bt, Int32.le_iff_toInt_le, ← Int32.toInt_inj, dt_z0] at h h' ⊢
  omega
theorem dt_opn {H B L : Nat → Int32} {a b : Nat} (hb : L b = 0) (h : dt_bt H B L a b) : L a = 0 := by
  rcases h with ⟨-, h⟩ | ⟨h, -⟩
  · exact absurd hb h
  · rw [h]; exact hb
def dt_bi (lf : Nat → Prop) (bt : Nat → Nat → Prop) (i : Nat) (z : Int32) : Prop :=
  (z = -1 ∧ ∀ j, j < i → ¬ lf j) ∨ ∃ b, b < i ∧ z = nI b ∧ lf b ∧ ∀ j, j < i → lf j → j = b ∨ bt b j
def dt_bs (lf : Nat → Prop) (bt : Nat → Nat → Prop) (c : Nat) (z : Int32) : Prop :=
  (z = -1 ∧ ∀ j, j < c → ¬ lf j) ∨ ∃ b, b < c ∧ z = nI b ∧ lf b ∧ ∀ j, j < c → lf j → ¬ bt j b
theorem dt_fin {H B L : Nat → Int32} (hL : ∀ r, L r = 0 ∨ L r = 1) {lf : Nat → Prop} {c : Nat} {z : Int32} (h : dt_bi lf (dt_bt H B L) c z) : dt_bs lf (dt_bt H B L) c z := by
  rcases h with h | ⟨b, hb, e, l, m⟩
  · exact Or.inl h
  · refine Or.inr ⟨b, hb, e, l, fun j hj lj t => ?_⟩
    rcases m j hj lj with rfl | t2
    · exact dt_irr _ t
    · exact dt_irr _ (dt_tr hL t t2)
theorem dt_lts {i : Nat} {p : Nat → Prop} (h : ∀ a, a < i → p a) (hi : p i) (a : Nat) (ha : a < i + 1) : p a := by
  by_cases e : a = i
  · rw [e]; exact hi
  · exact h a (by omega)
theorem dt_bi_f {lf : Nat → Prop} {bt : Nat → Nat → Prop} {i : Nat} {z : Int32} (h : dt_bi lf bt i z) (hi : ¬ lf i) : dt_bi lf bt (i + 1) z := by
  rcases h with ⟨e, n⟩ | ⟨b, hb, e, l, m⟩
  · exact Or.inl ⟨e, dt_lts n hi⟩
  · exact Or.inr ⟨b, by omega, e, l, dt_lts m (fun z => absurd z hi)⟩
theorem dt_bi_n {lf : Nat → Prop} {bt : Nat → Nat → Prop} {i : Nat} (n : ∀ j, j < i → ¬ lf j) (hi : lf i) : dt_bi lf bt (i + 1) (nI i) :=
  Or.inr ⟨i, by omega, rfl, hi, dt_lts (fun j hj z => absurd z (n j hj)) (fun _ => Or.inl rfl)⟩
theorem dt_bi_o {H B L : Nat → Int32} (hL : ∀ r, L r = 0 ∨ L r = 1) {lf : Nat → Prop} {i b : Nat} (hb : b < i) (l : lf b) (m : ∀ j, j < i → lf j → j = b ∨ dt_bt H B L b j) (t : ¬ dt_bt H B L i b) : dt_bi lf (dt_bt H B L) (i + 1) (nI b) := by
  refine Or.inr ⟨b, by omega, rfl, l, dt_lts m (fun _ => Or.inr ?_)⟩
  rcases dt_tot hL (a := i) (b := b) (by omega) with h | h
  · exact absurd h t
  · exact h
theorem dt_bi_t {H B L : Nat → Int32} (hL : ∀ r, L r = 0 ∨ L r = 1) {lf : Nat → Prop} {i b : Nat} (hi : lf i) (m : ∀ j, j < i → lf j → j = b ∨ dt_bt H B L b j) (t : dt_bt H B L i b) : dt_bi lf (dt_bt H B L) (i + 1) (nI i) := by
  refine Or.inr ⟨i, by omega, rfl, hi, dt_lts (fun j hj lj => Or.inr ?_) (fun _ => Or.inl rfl)⟩
  rcases m j hj lj with rfl | h
  · exact t
  · exact dt_tr hL t h
