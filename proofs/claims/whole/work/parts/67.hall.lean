/-! how many of the first numbers are so -/
noncomputable def cn (p : Nat → Prop) : Nat → Nat
  | 0 => 0
  | n + 1 => cn p n + @ite Nat (p n) (Classical.propDecidable _) 1 0
theorem cn_s {p : Nat → Prop} {n : Nat} (h : p n) : cn p (n + 1) = cn p n + 1 := by
  show cn p n + @ite Nat (p n) (Classical.propDecidable _) 1 0 = _
  rw [if_pos h]
theorem cn_n {p : Nat → Prop} {n : Nat} (h : ¬ p n) : cn p (n + 1) = cn p n := by
  show cn p n + @ite Nat (p n) (Classical.propDecidable _) 1 0 = _
  rw [if_neg h]; rfl
theorem cn_mono {p q : Nat → Prop} : ∀ n, (∀ i, i < n → p i → q i) → cn p n ≤ cn q n := by
  intro n
  induction n with
  | zero => intro _; exact Nat.le_refl _
  | succ n ih =>
    intro h
    have := ih (fun i hi hp => h i (by omega) hp)
    by_cases c : p n
    · rw [cn_s c, cn_s (h n (by omega) c)]; omega
    · rw [cn_n c]
      by_cases d : q n
      · rw [cn_s d]; omega
      · rw [cn_n d]; exact this
theorem cn_sub (p q : Nat → Prop) : ∀ n, cn (fun i => p i ∨ q i) n + cn (fun i => p i ∧ q i) n = cn p n + cn q n := by
  intro n
  induction n with
  | zero => rfl
  | succ n ih =>
    by_cases c : p n
    · by_cases d : q n
      · rw [cn_s (p := fun i => p i ∨ q i) (Or.inl c), cn_s (p := fun i => p i ∧ q i) ⟨c, d⟩, cn_s c, cn_s d]; omega
      · rw [cn_s (p := fun i => p i ∨ q i) (Or.inl c), cn_n (p := fun i => p i ∧ q i) (fun z => d z.2), cn_s c, cn_n d]; omega
    · by_cases d : q n
      · rw [cn_s (p := fun i => p i ∨ q i) (Or.inr d), cn_n (p := fun i => p i ∧ q i) (fun z => c z.1), cn_n c, cn_s d]; omega
      · rw [cn_n (p := fun i => p i ∨ q i) (fun z => z.elim c d), cn_n (p := fun i => p i ∧ q i) (fun z => c z.1), cn_n c, cn_n d]; exact ih
theorem cn_congr {p q : Nat → Prop} {n : Nat} (h : ∀ i, i < n → (p i ↔ q i)) : cn p n = cn q n :=
  Nat.le_antisymm (cn_mono n fun i hi hp => (h i hi).mp hp) (cn_mono n fun i hi hp => (h i hi).mpr hp)
theorem cn_pull {p : Nat → Prop} {x : Nat} (hp : p x) : ∀ n, x < n → cn (fun i => p i ∧ i ≠ x) n + 1 = cn p n := by
  intro n
  induction n with
  | zero => intro h; omega
  | succ n ih =>
    intro hx
    by_cases e : x = n
    · subst e
      rw [cn_n (p := fun i => p i ∧ i ≠ x) (fun z => z.2 rfl), cn_s hp, cn_congr (p := fun i => p i ∧ i ≠ x) (q := p) (fun i hi => ⟨fun z => z.1, fun z => ⟨z, by omega⟩⟩)]
    · have := ih (by omega)
      by_cases c : p n
      · rw [cn_s (p := fun i => p i ∧ i ≠ x) ⟨c, Ne.symm e⟩, cn_s c]; omega
      · rw [cn_n (p := fun i => p i ∧ i ≠ x) (fun z => c z.1), cn_n c]; exact this
theorem cn_inj {g : Nat → Prop} {f : Nat → Nat} {k : Nat} : ∀ (n : Nat) (q : Nat → Prop), (∀ i, i < n → g i → f i < k ∧ q (f i)) → (∀ i j, i < n → j < n → g i → g j → f i = f j → i = j) → cn g n ≤ cn q k := by
  intro n
  induction n with
  | zero => intro q _ _; exact Nat.zero_le _
  | succ n ih =>
    intro q h1 h2
    by_cases c : g n
    · have hn := h1 n (by omega) c
      have := ih (fun t => q t ∧ t ≠ f n) (fun i hi hg => ⟨(h1 i (by omega) hg).1, (h1 i (by omega) hg).2, fun e => by
        have := h2 i n (by omega) (by omega) hg c e
        omega⟩) (fun i j hi hj => h2 i j (by omega) (by omega))
      rw [cn_s c, ← cn_pull hn.2 k hn.1]
      omega
    · rw [cn_n c]
      exact ih q (fun i hi => h1 i (by omega)) (fun i j hi hj => h2 i j (by omega) (by omega))
theorem cn_one {p : Nat → Prop} {x n : Nat} (hx : x < n) (hp : p x) : 1 ≤ cn p n := by
  rw [← cn_pull hp n hx]; omega
theorem cn_two {p : Nat → Prop} {x y n : Nat} (hx : x < n) (hy : y < n) (h : x ≠ y) (hp : p x) (hq : p y) : 2 ≤ cn p n := by
  rw [← cn_pull hp n hx, ← cn_pull (p := fun i => p i ∧ i ≠ x) ⟨hq, Ne.symm h⟩ n hy]; omega
theorem cn_ex {p : Nat → Prop} : ∀ n, 1 ≤ cn p n → ∃ i, i < n ∧ p i := by
  intro n
  induction n with
  | zero => intro h; exact absurd h (by show ¬ 1 ≤ 0; omega)
  | succ n ih =>
    intro h
    by_cases c : p n
    · exact ⟨n, by omega, c⟩
    · rw [cn_n c] at h
      obtain ⟨i, hi, hp⟩ := ih h
      exact ⟨i, by omega, hp⟩
theorem cn_ex2 {p : Nat → Prop} {n : Nat} (h : 2 ≤ cn p n) : ∃ x y, x < n ∧ y < n ∧ x ≠ y ∧ p x ∧ p y := by
  obtain ⟨x, hx, px⟩ := cn_ex (p := p) n (by omega)
  rw [← cn_pull px n hx] at h
  obtain ⟨y, hy, py, e⟩ := cn_ex (p := fun i => p i ∧ i ≠ x) n (by omega)
  exact ⟨x, y, hx, hy, Ne.symm e, px, py⟩
/-! each has one of its own, and no group is larger than what its members have -/
def HallP (A : Nat → Nat → Prop) (S : Nat → Prop) (N M : Nat) : Prop := ∀ g : Nat → Prop, (∀ i, g i → S i ∧ i < N) → cn g N ≤ cn (fun t => ∃ i, g i ∧ A i t) M
def Sdr (A : Nat → Nat → Prop) (S : Nat → Prop) (N M : Nat) : Prop := ∃ f : Nat → Nat, (∀ i, S i → i < N → f i < M ∧ A i (f i)) ∧ ∀ i j, S i → S j → i < N → j < N → f i = f j → i = j
theorem sdr_hall {A : Nat → Nat → Prop} {S : Nat → Prop} {N M : Nat} (h : Sdr A S N M) : HallP A S N M := by
  obtain ⟨f, h1, h2⟩ := h
  intro g hg
  exact cn_inj (f := f) N _ (fun i hi gi => ⟨(h1 i (hg i gi).1 hi).1, i, gi, (h1 i (hg i gi).1 hi).2⟩) (fun i j hi hj gi gj => h2 i j (hg i gi).1 (hg j gj).1 hi hj)
noncomputable def szA (A : Nat → Nat → Prop) (M : Nat) : Nat → Nat
  | 0 => 0
  | n + 1 => szA A M n + cn (A n) M
/-- one of one's own is taken away -/
def cutA (A : Nat → Nat → Prop) (k x : Nat) : Nat → Nat → Prop := fun i t => A i t ∧ (i = k → t ≠ x)
theorem sz_same {A : Nat → Nat → Prop} {M k x : Nat} : ∀ n, n ≤ k → szA (cutA A k x) M n = szA A M n := by
  intro n
  induction n with
  | zero => intro _; rfl
  | succ n ih =>
    intro h
    rw [szA, szA, ih (by omega), cn_congr (p := cutA A k x n) (q := A n) (fun i _ => ⟨fun z => z.1, fun z => ⟨z, fun e => by omega⟩⟩)]
theorem sz_cut {A : Nat → Nat → Prop} {M k x : Nat} (hx : x < M) (ha : A k x) : ∀ n, k < n → szA (cutA A k x) M n < szA A M n := by
  intro n
  induction n with
  | zero => intro h; omega
  | succ n ih =>
    intro h
    rw [szA, szA]
    by_cases e : k = n
    · subst e
      have h1 := cn_pull (p := A k) ha M hx
      rw [sz_same k (Nat.le_refl _), cn_congr (p := cutA A k x k) (q := fun i => A k i ∧ i ≠ x) (fun i _ => ⟨fun z => ⟨z.1, z.2 rfl⟩, fun z => ⟨z.1, fun _ => z.2⟩⟩)]
      omega
    · rw [cn_congr (p := cutA A k x n) (q := A n) (fun i _ => ⟨fun z => z.1, fun z => ⟨z, fun e2 => absurd e2.symm e⟩⟩)]
      have := ih (by omega)
      omega
/-- of two that one has, one can go -/
theorem hall_cut {A : Nat → Nat → Prop} {S : Nat → Prop} {N M k x y : Nat} (h : HallP A S N M) (hk : S k ∧ k < N) (hxy : x ≠ y) : HallP (cutA A k x) S N M ∨ HallP (cutA A k y) S N M := by
  refine Classical.byContradiction fun no => ?_
  have n1 : ¬ HallP (cutA A k x) S N M := fun z => no (Or.inl z)
  have n2 : ¬ HallP (cutA A k y) S N M := fun z => no (Or.inr z)
  obtain ⟨g1, z1⟩ := Classical.not_forall.mp n1
  obtain ⟨g2, z2⟩ := Classical.not_forall.mp n2
  obtain ⟨s1, z1⟩ := Classical.not_imp.mp z1
  obtain ⟨s2, z2⟩ := Classical.not_imp.mp z2
  have k1 : g1 k := Classical.byContradiction fun c => z1 (Nat.le_trans (h g1 s1) (cn_mono M fun t _ ht => by
    obtain ⟨i, i1, i2⟩ := ht
    exact ⟨i, i1, i2, fun e => absurd (e ▸ i1) c⟩))
  have k2 : g2 k := Classical.byContradiction fun c => z2 (Nat.le_trans (h g2 s2) (cn_mono M fun t _ ht => by
    obtain ⟨i, i1, i2⟩ := ht
    exact ⟨i, i1, i2, fun e => absurd (e ▸ i1) c⟩))
  have a1 := cn_sub (fun t => ∃ i, g1 i ∧ cutA A k x i t) (fun t => ∃ i, g2 i ∧ cutA A k y i t) M
  have a2 := cn_sub g1 g2 N
  have b1 : cn (fun t => ∃ i, (g1 i ∨ g2 i) ∧ A i t) M ≤ cn (fun t => (∃ i, g1 i ∧ cutA A k x i t) ∨ (∃ i, g2 i ∧ cutA A k y i t)) M := cn_mono M fun t _ ht => by
    obtain ⟨i, i1, i2⟩ := ht
    by_cases e : i = k
    · subst e
      by_cases c : t = x
      · exact Or.inr ⟨i, k2, i2, fun _ e2 => hxy (c.symm.trans e2)⟩
      · exact Or.inl ⟨i, k1, i2, fun _ => c⟩
    · rcases i1 with i1 | i1
      · exact Or.inl ⟨i, i1, i2, fun z => absurd z e⟩
      · exact Or.inr ⟨i, i1, i2, fun z => absurd z e⟩
  have b2 : cn (fun t => ∃ i, ((g1 i ∧ g2 i) ∧ i ≠ k) ∧ A i t) M ≤ cn (fun t => (∃ i, g1 i ∧ cutA A k x i t) ∧ (∃ i, g2 i ∧ cutA A k y i t)) M := cn_mono M fun t _ ht => by
    obtain ⟨i, ⟨⟨i1, i2⟩, i3⟩, i4⟩ := ht
    exact ⟨⟨i, i1, i4, fun z => absurd z i3⟩, ⟨i, i2, i4, fun z => absurd z i3⟩⟩
  have c1 := h (fun i => g1 i ∨ g2 i) (fun i hi => hi.elim (s1 i) (s2 i))
  have c2 := h (fun i => (g1 i ∧ g2 i) ∧ i ≠ k) (fun i hi => s1 i hi.1.1)
  have c3 := cn_pull (p := fun i => g1 i ∧ g2 i) ⟨k1, k2⟩ N hk.2
  omega
theorem hall_sdr {S : Nat → Prop} {N M : Nat} : ∀ (z : Nat) (A : Nat → Nat → Prop), szA A M N < z → HallP A S N M → Sdr A S N M := by
  intro z
  induction z with
  | zero => intro A h _; omega
  | succ z ih =>
    intro A hz h
    by_cases c : ∃ k, S k ∧ k < N ∧ 2 ≤ cn (A k) M
    · obtain ⟨k, k1, k2, k3⟩ := c
      obtain ⟨x, y, hx, hy, hxy, ax, ay⟩ := cn_ex2 k3
      have down : ∀ u, u < M → A k u → HallP (cutA A k u) S N M → Sdr A S N M := fun u hu au hh => by
        have := sz_cut (M := M) hu au N k2
        obtain ⟨f, f1, f2⟩ := ih (cutA A k u) (by omega) hh
        exact ⟨f, fun i hi hN => ⟨(f1 i hi hN).1, (f1 i hi hN).2.1⟩, f2⟩
      rcases hall_cut h ⟨k1, k2⟩ hxy with hh | hh
      · exact down x hx ax hh
      · exact down y hy ay hh
    · have one : ∀ i, ∃ t, S i → i < N → t < M ∧ A i t := fun i => by
        by_cases si : S i ∧ i < N
        · have := h (fun j => j = i) (fun j hj => by subst hj; exact si)
          obtain ⟨t, ht, j, hj, a⟩ := cn_ex M (Nat.le_trans (cn_one (p := fun j => j = i) si.2 rfl) this)
          subst hj
          exact ⟨t, fun _ _ => ⟨ht, a⟩⟩
        · exact ⟨0, fun a b => absurd ⟨a, b⟩ si⟩
      obtain ⟨f, hf⟩ := Classical.axiomOfChoice one
      have only : ∀ i, S i → i < N → ∀ u, u < M → A i u → u = f i := fun i si hi u hu au => Classical.byContradiction fun ne =>
        c ⟨i, si, hi, cn_two hu (hf i si hi).1 ne au (hf i si hi).2⟩
      refine ⟨f, fun i si hi => hf i si hi, fun i j si sj hi hj e => Classical.byContradiction fun ne => ?_⟩
      have := h (fun k => k = i ∨ k = j) (fun k hk => by
        rcases hk with rfl | rfl
        · exact ⟨si, hi⟩
        · exact ⟨sj, hj⟩)
      obtain ⟨u, v, hu, hv, uv, ⟨a, a1, a2⟩, ⟨b, b1, b2⟩⟩ := cn_ex2 (Nat.le_trans (cn_two (p := fun k => k = i ∨ k = j) hi hj ne (Or.inl rfl) (Or.inr rfl)) this)
      have eu : u = f i := by
        rcases a1 with rfl | rfl
        · exact only _ si hi u hu a2
        · exact (only _ sj hj u hu a2).trans e.symm
      have ev : v = f i := by
        rcases b1 with rfl | rfl
        · exact only _ si hi v hv b2
        · exact (only _ sj hj v hv b2).trans e.symm
      exact uv (eu.trans ev.symm)
/-- Hall -/
theorem hall_iff {A : Nat → Nat → Prop} {S : Nat → Prop} {N M : Nat} : HallP A S N M ↔ Sdr A S N M := ⟨fun h => hall_sdr _ A (Nat.lt_succ_self _) h, sdr_hall⟩
