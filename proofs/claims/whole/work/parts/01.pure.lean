/-- counting below k -/
noncomputable def cn_t (P : Nat → Prop) : Nat → Nat
  | 0 => 0
  | k + 1 => cn_t P k + @ite Nat (P k) (Classical.propDecidable (P k)) 1 0
theorem cn_s1 {P : Nat → Prop} {k : Nat} (h : P k) : cn_t P (k + 1) = cn_t P k + 1 := by
  show cn_t P k + @ite Nat (P k) (Classical.propDecidable (P k)) 1 0 = _
  rw [if_pos h]
theorem cn_s0 {P : Nat → Prop} {k : Nat} (h : ¬ P k) : cn_t P (k + 1) = cn_t P k := by
  show cn_t P k + @ite Nat (P k) (Classical.propDecidable (P k)) 1 0 = _
  rw [if_neg h, Nat.add_zero]
theorem cn_le (P : Nat → Prop) : ∀ k, cn_t P k ≤ k := by
  intro k
  induction k with
  | zero => exact Nat.le_refl 0
  | succ k ih =>
    by_cases h : P k
    · rw [cn_s1 h]; omega
    · rw [cn_s0 h]; omega
theorem cn_mono {P Q : Nat → Prop} : ∀ k, (∀ i, i < k → P i → Q i) → cn_t P k ≤ cn_t Q k := by
  intro k
  induction k with
  | zero => intro _; exact Nat.le_refl 0
  | succ k ih =>
    intro h
    have h1 := ih (fun i hi => h i (by omega))
    by_cases p : P k
    · rw [cn_s1 p, cn_s1 (h k (by omega) p)]; omega
    · rw [cn_s0 p]
      by_cases q : Q k
      · rw [cn_s1 q]; omega
      · rw [cn_s0 q]; exact h1
theorem cn_lt {P Q : Nat → Prop} (a : Nat) : ∀ k, (∀ i, i < k → P i → Q i) → a < k → Q a → ¬ P a → cn_t P k + 1 ≤ cn_t Q k := by
  intro k
  induction k with
  | zero => intro _ h; omega
  | succ k ih =>
    intro h ha qa pa
    by_cases e : a = k
    · have h1 := cn_mono (P := P) (Q := Q) k (fun i hi => h i (by omega))
      rw [e] at qa pa
      rw [cn_s0 pa, cn_s1 qa]
      omega
    · have h1 := ih (fun i hi => h i (by omega)) (by omega) qa pa
      by_cases p : P k
      · rw [cn_s1 p, cn_s1 (h k (by omega) p)]; omega
      · rw [cn_s0 p]
        by_cases q : Q k
        · rw [cn_s1 q]; omega
        · rw [cn_s0 q]; exact h1
theorem cn_room {P : Nat → Prop} {k : Nat} (a : Nat) (ha : a < k) (pa : ¬ P a) : cn_t P k + 1 ≤ k :=
  Nat.le_trans (cn_lt (Q := fun _ => True) a k (fun _ _ _ => trivial) ha trivial pa) (cn_le _ k)
theorem cn_all {P : Nat → Prop} {k : Nat} (h : k ≤ cn_t P k) (i : Nat) (hi : i < k) : P i :=
  Classical.byContradiction fun z => by have := cn_room i hi z; omega
theorem cn_pos {P : Nat → Prop} {k : Nat} (a : Nat) (ha : a < k) (pa : P a) : 1 ≤ cn_t P k := by
  have := cn_lt (P := fun _ => False) (Q := P) a k (fun _ _ z => z.elim) ha pa (fun z => z)
  omega
/-- closed over the middles below k -/
def fw_C (n k : Nat) (p : Nat → Nat → Prop) (c : Nat → Nat → Int) : Prop :=
  ∀ x u v, x < k → u < n → v < n → p u x → p x v → p u v ∧ c u v ≤ c u x + c x v
/-- a stage at middle k, done for the pairs of P -/
def fw_S (n k : Nat) (P p0 : Nat → Nat → Prop) (c0 : Nat → Nat → Int) (p : Nat → Nat → Prop) (c : Nat → Nat → Int) : Prop :=
  ∀ u v, u < n → v < n → (¬ P u v → (p u v ↔ p0 u v) ∧ c u v = c0 u v) ∧ (p0 u v → p u v ∧ c u v ≤ c0 u v) ∧
    (P u v → p0 u k → p0 k v → p u v ∧ c u v ≤ c0 u k + c0 k v) ∧
    (p u v → (p0 u v ∧ c u v = c0 u v) ∨ (p0 u k ∧ p0 k v ∧ c u v = c0 u k + c0 k v))
theorem fw_start {n k : Nat} {P p0 : Nat → Nat → Prop} {c0 : Nat → Nat → Int} (hP : ∀ u v, ¬ P u v) : fw_S n k P p0 c0 p0 c0 :=
  fun u v _ _ => ⟨fun _ => ⟨Iff.rfl, rfl⟩, fun q => ⟨q, Int.le_refl _⟩, fun z => absurd z (hP u v), fun q => Or.inl ⟨q, rfl⟩⟩
theorem fw_close {n k : Nat} {P p0 p : Nat → Nat → Prop} {c0 c : Nat → Nat → Int} (hk : k < n) (hC : fw_C n k p0 c0)
    (hS : fw_S n k P p0 c0 p c) (hP : ∀ u v, u < n → v < n → P u v) (h0 : p0 k k → 0 ≤ c0 k k) : fw_C n (k + 1) p c := by
  intro x u v hx hu hv p1 p2
  have A : ∀ a, a < n → p a k → p0 a k ∧ c0 a k ≤ c a k := by
    intro a ha pa
    rcases (hS a k ha hk).2.2.2 pa with ⟨q, e⟩ | ⟨q, q', e⟩
    · exact ⟨q, by omega⟩
    · have := h0 q'
      exact ⟨q, by omega⟩
  have B : ∀ b, b < n → p k b → p0 k b ∧ c0 k b ≤ c k b := by
    intro b hb pb
    rcases (hS k b hk hb).2.2.2 pb with ⟨q, e⟩ | ⟨q, q', e⟩
    · exact ⟨q, by omega⟩
    · have := h0 q
      exact ⟨q', by omega⟩
  obtain ⟨_, s2, s3', _⟩ := hS u v hu hv
  have s3 := s3' (hP u v hu hv)
  by_cases e : x = k
  · rw [e] at p1 p2 ⊢
    obtain ⟨q1, l1⟩ := A u hu p1
    obtain ⟨q2, l2⟩ := B v hv p2
    obtain ⟨q, l⟩ := s3 q1 q2
    exact ⟨q, by omega⟩
  · have hx : x < k := by omega
    have hxn : x < n := by omega
    rcases (hS u x hu hxn).2.2.2 p1 with ⟨a1, e1⟩ | ⟨a1, b1, e1⟩
    · rcases (hS x v hxn hv).2.2.2 p2 with ⟨a2, e2⟩ | ⟨a2, b2, e2⟩
      · obtain ⟨q, l⟩ := hC x u v hx hu hv a1 a2
        obtain ⟨q', l'⟩ := s2 q
        exact ⟨q', by omega⟩
      · obtain ⟨q, l⟩ := hC x u k hx hu hk a1 a2
        obtain ⟨q', l'⟩ := s3 q b2
        exact ⟨q', by omega⟩
    · rcases (hS x v hxn hv).2.2.2 p2 with ⟨a2, e2⟩ | ⟨a2, b2, e2⟩
      · obtain ⟨q, l⟩ := hC x k v hx hk hv b1 a2
        obtain ⟨q', l'⟩ := s3 a1 q
        exact ⟨q', by omega⟩
      · obtain ⟨q, l⟩ := hC x k k hx hk hk b1 a2
        have := h0 q
        obtain ⟨q', l'⟩ := s3 a1 b2
        exact ⟨q', by omega⟩
theorem fw_A {n k : Nat} {P p0 p : Nat → Nat → Prop} {c0 c : Nat → Nat → Int} (hk : k < n)
    (hS : fw_S n k P p0 c0 p c) (h0 : p0 k k → 0 ≤ c0 k k) : ∀ a, a < n → (p a k ↔ p0 a k) ∧ (p0 a k → c a k = c0 a k) := by
  intro a ha
  obtain ⟨_, s2, _, s4⟩ := hS a k ha hk
  refine ⟨⟨fun q => ?_, fun q => (s2 q).1⟩, fun q => ?_⟩
  · rcases s4 q with ⟨z, _⟩ | ⟨z, _, _⟩
    · exact z
    · exact z
  · obtain ⟨l1, l2⟩ := s2 q
    rcases s4 l1 with ⟨_, e⟩ | ⟨_, z, e⟩
    · exact e
    · have := h0 z
      omega
theorem fw_B {n k : Nat} {P p0 p : Nat → Nat → Prop} {c0 c : Nat → Nat → Int} (hk : k < n)
    (hS : fw_S n k P p0 c0 p c) (h0 : p0 k k → 0 ≤ c0 k k) : ∀ a, a < n → (p k a ↔ p0 k a) ∧ (p0 k a → c k a = c0 k a) := by
  intro a ha
  obtain ⟨_, s2, _, s4⟩ := hS k a hk ha
  refine ⟨⟨fun q => ?_, fun q => (s2 q).1⟩, fun q => ?_⟩
  · rcases s4 q with ⟨z, _⟩ | ⟨_, z, _⟩
    · exact z
    · exact z
  · obtain ⟨l1, l2⟩ := s2 q
    rcases s4 l1 with ⟨_, e⟩ | ⟨z, _, e⟩
    · exact e
    · have := h0 z
      omega
theorem fw_step {n k u v : Nat} {P P' p0 p p' : Nat → Nat → Prop} {c0 c c' : Nat → Nat → Int} (hk : k < n)
    (hS : fw_S n k P p0 c0 p c) (h0 : p0 k k → 0 ≤ c0 k k)
    (hP : ∀ a b, P' a b ↔ (P a b ∨ (a = u ∧ b = v)))
    (ho : ∀ a b, a < n → b < n → ¬ (a = u ∧ b = v) → (p' a b ↔ p a b) ∧ c' a b = c a b)
    (h1 : p u v → p' u v ∧ c' u v ≤ c u v)
    (h2 : p u k → p k v → p' u v ∧ c' u v ≤ c u k + c k v)
    (h3 : p' u v → (p u v ∧ c' u v = c u v) ∨ (p u k ∧ p k v ∧ c' u v = c u k + c k v)) : fw_S n k P' p0 c0 p' c' := by
  have A := fw_A hk hS h0
  have B := fw_B hk hS h0
  intro a b ha hb
  obtain ⟨s1, s2, s3, s4⟩ := hS a b ha hb
  by_cases e : a = u ∧ b = v
  · obtain ⟨e1, e2⟩ := e
    rw [← e1, ← e2] at h1 h2 h3
    refine ⟨fun z => absurd ((hP a b).mpr (Or.inr ⟨e1, e2⟩)) z, fun q => ?_, fun _ q1 q2 => ?_, fun q => ?_⟩
    · obtain ⟨x, l⟩ := s2 q
      obtain ⟨x', l'⟩ := h1 x
      exact ⟨x', by omega⟩
    · obtain ⟨x', l'⟩ := h2 ((A a ha).1.mpr q1) ((B b hb).1.mpr q2)
      have := (A a ha).2 q1
      have := (B b hb).2 q2
      exact ⟨x', by omega⟩
    · rcases h3 q with ⟨x, e⟩ | ⟨x, y, e⟩
      · rcases s4 x with ⟨z, e'⟩ | ⟨z, z', e'⟩
        · exact Or.inl ⟨z, by omega⟩
        · exact Or.inr ⟨z, z', by omega⟩
      · have x0 := (A a ha).1.mp x
        have y0 := (B b hb).1.mp y
        have := (A a ha).2 x0
        have := (B b hb).2 y0
        exact Or.inr ⟨x0, y0, by omega⟩
  · obtain ⟨i1, i2⟩ := ho a b ha hb e
    refine ⟨fun z => ?_, fun q => ?_, fun z q1 q2 => ?_, fun q => ?_⟩
    · have := s1 (fun y => z ((hP a b).mpr (Or.inl y)))
      exact ⟨i1.trans this.1, i2.trans this.2⟩
    · exact ⟨i1.mpr (s2 q).1, by rw [i2]; exact (s2 q).2⟩
    · have hz : P a b := ((hP a b).mp z).resolve_right e
      have := s3 hz q1 q2
      exact ⟨i1.mpr this.1, by rw [i2]; exact this.2⟩
    · rw [i2]
      exact s4 (i1.mp q)
