def bf_c (W D : Nat → Nat → Int) (p : Int) (u v : Nat) : Int := W u v - (if p < D u v then 1 else 0)
theorem bf_c1 {W D : Nat → Nat → Int} {p : Int} {u v : Nat} (h : p < D u v) : bf_c W D p u v = W u v - 1 := by unfold bf_c; rw [if_pos h]
theorem bf_c0 {W D : Nat → Nat → Int} {p : Int} {u v : Nat} (h : ¬ p < D u v) : bf_c W D p u v = W u v := by unfold bf_c; rw [if_neg h]; omega
theorem bf_cb (W D : Nat → Nat → Int) (p : Int) (u v : Nat) : W u v - 1 ≤ bf_c W D p u v ∧ bf_c W D p u v ≤ W u v := by
  by_cases h : p < D u v
  · rw [bf_c1 h]; omega
  · rw [bf_c0 h]; omega
def bf_en (n : Nat) (W : Nat → Nat → Int) (u v : Nat) : Prop := u < n ∧ v < n ∧ u ≠ v ∧ W u v ≠ 1000000
def bf_fe (n : Nat) (W D : Nat → Nat → Int) (p : Int) (L : Nat → Int) : Prop := ∀ u v, bf_en n W u v → L u ≤ L v + bf_c W D p u v
def bf_ok (n : Nat) (W D : Nat → Nat → Int) (d : Nat → Int) (p : Int) (L : Nat → Int) : Prop := (∀ v, v < n → d v ≤ p) ∧ bf_fe n W D p L
def bf_le (n : Nat) (L M : Nat → Int) : Prop := ∀ v, v < n → L v ≤ M v
def bf_0 (n : Nat) (L : Nat → Int) : Prop := ∀ v, v < n → L v ≤ 0
def bf_Gr (n : Nat) (W D : Nat → Nat → Int) (p : Int) (G : Nat → Int) : Prop :=
  bf_fe n W D p G ∧ bf_0 n G ∧ ∀ L, bf_fe n W D p L → bf_0 n L → bf_le n L G
theorem bf_feC {n : Nat} {W D : Nat → Nat → Int} {p : Int} {L M : Nat → Int} (e : ∀ v, v < n → L v = M v) (h : bf_fe n W D p L) : bf_fe n W D p M := by
  intro u v en
  rw [← e u en.1, ← e v en.2.1]
  exact h u v en
def sm_t (L : Nat → Int) : Nat → Nat
  | 0 => 0
  | k + 1 => sm_t L k + (-(L k)).toNat
theorem sm_le {L M : Nat → Int} : ∀ k, (∀ v, v < k → L v ≤ M v) → sm_t M k ≤ sm_t L k := by
  intro k
  induction k with
  | zero => intro _; exact Nat.le_refl 0
  | succ k ih =>
    intro h
    have h1 := ih (fun v hv => h v (by omega))
    have h2 := h k (by omega)
    show sm_t M k + (-(M k)).toNat ≤ sm_t L k + (-(L k)).toNat
    omega
theorem sm_lt {L M : Nat → Int} (a : Nat) : ∀ k, (∀ v, v < k → L v ≤ M v) → a < k → L a < M a → M a ≤ 0 → sm_t M k < sm_t L k := by
  intro k
  induction k with
  | zero => intro _ h; omega
  | succ k ih =>
    intro h ha h1 h2
    show sm_t M k + (-(M k)).toNat < sm_t L k + (-(L k)).toNat
    by_cases e : a = k
    · have h3 := sm_le (L := L) (M := M) k (fun v hv => h v (by omega))
      rw [e] at h1 h2
      omega
    · have h3 := ih (fun v hv => h v (by omega)) (by omega) h1 h2
      have h4 := h k (by omega)
      omega
def mx_t (a b : Int) : Int := if a ≤ b then b else a
theorem mx_s (a b : Int) : a ≤ mx_t a b ∧ b ≤ mx_t a b ∧ (mx_t a b = a ∨ mx_t a b = b) := by
  unfold mx_t
  by_cases h : a ≤ b
  · rw [if_pos h]; omega
  · rw [if_neg h]; omega
theorem bf_max {n : Nat} {W D : Nat → Nat → Int} {p : Int} {L M : Nat → Int} (h : bf_fe n W D p L) (h' : bf_fe n W D p M) :
    bf_fe n W D p (fun v => mx_t (L v) (M v)) := by
  intro u v en
  have h1 := h u v en
  have h2 := h' u v en
  have h3 := mx_s (L u) (M u)
  have h4 := mx_s (L v) (M v)
  show mx_t (L u) (M u) ≤ mx_t (L v) (M v) + bf_c W D p u v
  omega
theorem bf_ex {n : Nat} {W D : Nat → Nat → Int} {p : Int} : ∀ (N : Nat) (L : Nat → Int), sm_t L n ≤ N → bf_fe n W D p L → bf_0 n L → ∃ G, bf_Gr n W D p G := by
  intro N
  induction N with
  | zero =>
    intro L hN h1 h2
    refine ⟨L, h1, h2, fun M m1 m2 v hv => ?_⟩
    apply Classical.byContradiction
    intro z
    have h3 := sm_lt (L := L) (M := fun v => mx_t (L v) (M v)) v n (fun x _ => (mx_s (L x) (M x)).1) hv
      (by show L v < mx_t (L v) (M v); have := mx_s (L v) (M v); omega)
      (by show mx_t (L v) (M v) ≤ 0; have := mx_s (L v) (M v); have := h2 v hv; have := m2 v hv; omega)
    omega
  | succ N ih =>
    intro L hN h1 h2
    by_cases g : ∀ M, bf_fe n W D p M → bf_0 n M → bf_le n M L
    · exact ⟨L, h1, h2, g⟩
    · have ⟨M, hM⟩ := Classical.not_forall.mp g
      have m1 : bf_fe n W D p M := Classical.byContradiction fun z => hM (fun y => absurd y z)
      have m2 : bf_0 n M := Classical.byContradiction fun z => hM (fun _ y => absurd y z)
      have m3 : ¬ bf_le n M L := fun z => hM (fun _ _ => z)
      have ⟨v, hv'⟩ := Classical.not_forall.mp m3
      have hv : v < n := Classical.byContradiction fun z => hv' (fun y => absurd y z)
      have hv2 : ¬ M v ≤ L v := fun z => hv' (fun _ => z)
      have h3 := sm_lt (L := L) (M := fun v => mx_t (L v) (M v)) v n (fun x _ => (mx_s (L x) (M x)).1) hv
        (by show L v < mx_t (L v) (M v); have := mx_s (L v) (M v); omega)
        (by show mx_t (L v) (M v) ≤ 0; have := mx_s (L v) (M v); have := h2 v hv; have := m2 v hv; omega)
      refine ih (fun v => mx_t (L v) (M v)) (by omega) (bf_max h1 m1) ?_
      intro x hx
      show mx_t (L x) (M x) ≤ 0
      have := mx_s (L x) (M x)
      have := h2 x hx
      have := m2 x hx
      omega
def bf_W (n : Nat) (W : Nat → Nat → Int) : Prop := ∀ u v, u < n → v < n → 0 ≤ W u v
def bf_up (G : Nat → Int) (t : Int) (v : Nat) : Int := if G v < t then G v + 1 else G v
theorem bf_upS (G : Nat → Int) (t : Int) (v : Nat) : (G v < t ∧ bf_up G t v = G v + 1) ∨ (t ≤ G v ∧ bf_up G t v = G v) := by
  unfold bf_up
  by_cases h : G v < t
  · rw [if_pos h]; exact Or.inl ⟨h, rfl⟩
  · rw [if_neg h]; exact Or.inr ⟨by omega, rfl⟩
theorem bf_gap {n : Nat} {W D : Nat → Nat → Int} {p : Int} {G : Nat → Int} (hW : bf_W n W) (hG : bf_Gr n W D p G) (t : Int) (ht : t ≤ 0) (a : Nat) (ha : a < n)
    (h : G a < t) : ∃ b, b < n ∧ G b = t := by
  apply Classical.byContradiction
  intro z
  have hz : ∀ b, b < n → G b ≠ t := fun b hb e => z ⟨b, hb, e⟩
  have h1 : bf_fe n W D p (bf_up G t) := by
    intro u v en
    have e1 := hG.1 u v en
    have e2 := bf_cb W D p u v
    have e3 := hW u v en.1 en.2.1
    have e4 := hz u en.1
    have e5 := hz v en.2.1
    have e6 := bf_upS G t u
    have e7 := bf_upS G t v
    omega
  have h2 : bf_0 n (bf_up G t) := by
    intro v hv
    have e6 := bf_upS G t v
    have := hG.2.1 v hv
    omega
  have h3 := hG.2.2 _ h1 h2 a ha
  have e6 := bf_upS G t a
  omega
theorem bf_range {n : Nat} {W D : Nat → Nat → Int} {p : Int} {G : Nat → Int} (hn : n ≤ 5) (hW : bf_W n W) (hG : bf_Gr n W D p G) : ∀ v, v < n → -4 ≤ G v := by
  intro v hv
  apply Classical.byContradiction
  intro z
  have st : ∀ t : Int, t ≤ 0 → -4 ≤ t → cn_t (fun x => G x ≤ t - 1) n + 1 ≤ cn_t (fun x => G x ≤ t) n := by
    intro t h0 h4
    obtain ⟨b, hb, e⟩ := bf_gap hW hG t h0 v hv (by omega)
    refine cn_lt b n (fun i _ (h : G i ≤ t - 1) => (by omega : G i ≤ t)) hb ?_ ?_
    · show G b ≤ t; omega
    · show ¬ G b ≤ t - 1; omega
  have s0 := st 0 (by omega) (by omega)
  have s1 := st (-1) (by omega) (by omega)
  have s2 := st (-2) (by omega) (by omega)
  have s3 := st (-3) (by omega) (by omega)
  have s4 := st (-4) (by omega) (by omega)
  have s5 := cn_pos (P := fun x => G x ≤ -5) v hv (by show G v ≤ -5; omega)
  have s6 := cn_le (fun x => G x ≤ 0) n
  simp only [Int.reduceSub, Int.reduceNeg] at s0 s1 s2 s3 s4
  omega
/-- a pass over the demands -/
def bf_Ps (n : Nat) (W D : Nat → Nat → Int) (p : Int) (a0 a : Nat → Int) (lo : Prop) : Prop :=
  bf_le n a a0 ∧ (∀ L, bf_fe n W D p L → bf_le n L a0 → bf_le n L a) ∧ (∀ u v, bf_en n W u v → a u ≤ a0 v + bf_c W D p u v) ∧
  (¬ lo → (∀ v, v < n → a v = a0 v) ∧ bf_fe n W D p a0) ∧ (bf_fe n W D p a0 → ¬ lo)
def bf_In (n : Nat) (W D : Nat → Nat → Int) (p : Int) (u0 v0 : Nat) (β : Int) (a0 a : Nat → Int) (lo : Prop) : Prop :=
  bf_le n a a0 ∧ (∀ L, bf_fe n W D p L → bf_le n L a0 → bf_le n L a) ∧ (∀ u v, bf_en n W u v → fw_P u0 v0 u v → a u ≤ a0 v + bf_c W D p u v) ∧
  (¬ lo → (∀ v, v < n → a v = a0 v) ∧ ∀ u v, bf_en n W u v → fw_P u0 v0 u v → a0 u ≤ a0 v + bf_c W D p u v) ∧ (bf_fe n W D p a0 → ¬ lo) ∧
  (∀ v, v < n → β - (5 * (u0 : Int) + v0) ≤ a v)
theorem bf_start {n : Nat} {W D : Nat → Nat → Int} {p β : Int} {a0 : Nat → Int} {lo : Prop} (hl : ¬ lo) (hβ : ∀ v, v < n → β ≤ a0 v) : bf_In n W D p 0 0 β a0 a0 lo := by
  have hP : ∀ u v, ¬ fw_P 0 0 u v := by intro u v; unfold fw_P; omega
  refine ⟨fun _ _ => Int.le_refl _, fun L _ h => h, fun u v _ z => absurd z (hP u v), fun _ => ⟨fun _ _ => rfl, fun u v _ z => absurd z (hP u v)⟩, fun _ => hl, ?_⟩
  intro v hv
  have := hβ v hv
  omega
theorem bf_keep {n u v : Nat} {W D : Nat → Nat → Int} {p β : Int} {a0 a : Nat → Int} {lo : Prop} (hI : bf_In n W D p u v β a0 a lo)
    (h : bf_en n W u v → a u ≤ a v + bf_c W D p u v) : bf_In n W D p u (v + 1) β a0 a lo := by
  obtain ⟨i1, i2, i3, i4, i5, i6⟩ := hI
  refine ⟨i1, i2, ?_, ?_, i5, ?_⟩
  · intro x y en q
    rcases (fw_P1 u v x y).mp q with q | ⟨q, q'⟩
    · exact i3 x y en q
    · rw [q, q'] at en ⊢
      have := h en
      have := i1 v en.2.1
      omega
  · intro l
    obtain ⟨j1, j2⟩ := i4 l
    refine ⟨j1, ?_⟩
    intro x y en q
    rcases (fw_P1 u v x y).mp q with q | ⟨q, q'⟩
    · exact j2 x y en q
    · rw [q, q'] at en ⊢
      have := h en
      rw [← j1 u en.1, ← j1 v en.2.1]
      exact this
  · intro x hx
    have := i6 x hx
    omega
theorem bf_low {n u v : Nat} {W D : Nat → Nat → Int} {p β : Int} {a0 a a' : Nat → Int} {lo lo' : Prop} (hW : bf_W n W) (hI : bf_In n W D p u v β a0 a lo)
    (en : bf_en n W u v) (h : a v + bf_c W D p u v < a u) (e1 : a' u = a v + bf_c W D p u v) (e2 : ∀ x, x < n → x ≠ u → a' x = a x) (hl : lo') :
    bf_In n W D p u (v + 1) β a0 a' lo' := by
  obtain ⟨i1, i2, i3, i4, i5, i6⟩ := hI
  have hle : ∀ x, x < n → a' x ≤ a x := by
    intro x hx
    by_cases q : x = u
    · rw [q, e1]; omega
    · rw [e2 x hx q]; exact Int.le_refl _
  refine ⟨?_, ?_, ?_, fun z => absurd hl z, ?_, ?_⟩
  · intro x hx
    exact Int.le_trans (hle x hx) (i1 x hx)
  · intro L l1 l2 x hx
    by_cases q : x = u
    · rw [q, e1]
      have := l1 u v en
      have := i2 L l1 l2 v en.2.1
      omega
    · rw [e2 x hx q]; exact i2 L l1 l2 x hx
  · intro x y en' q
    rcases (fw_P1 u v x y).mp q with q | ⟨q, q'⟩
    · exact Int.le_trans (hle x en'.1) (i3 x y en' q)
    · rw [q, q', e1]
      have := i1 v en.2.1
      omega
  · intro f
    have l := i5 f
    obtain ⟨j1, _⟩ := i4 l
    have := f u v en
    rw [← j1 u en.1, ← j1 v en.2.1] at this
    omega
  · intro x hx
    by_cases q : x = u
    · rw [q, e1]
      have := i6 v en.2.1
      have := bf_cb W D p u v
      have := hW u v en.1 en.2.1
      omega
    · rw [e2 x hx q]
      have := i6 x hx
      omega
theorem bf_row {n u : Nat} {W D : Nat → Nat → Int} {p β : Int} {a0 a : Nat → Int} {lo : Prop} (hn : n ≤ 5) (hI : bf_In n W D p u n β a0 a lo) :
    bf_In n W D p (u + 1) 0 β a0 a lo := by
  obtain ⟨i1, i2, i3, i4, i5, i6⟩ := hI
  have hP : ∀ x y, y < n → fw_P (u + 1) 0 x y → fw_P u n x y := by
    intro x y hy; unfold fw_P; omega
  refine ⟨i1, i2, fun x y en q => i3 x y en (hP x y en.2.1 q), fun l => ⟨(i4 l).1, fun x y en q => (i4 l).2 x y en (hP x y en.2.1 q)⟩, i5, ?_⟩
  intro x hx
  have := i6 x hx
  omega
theorem bf_end {n : Nat} {W D : Nat → Nat → Int} {p β : Int} {a0 a : Nat → Int} {lo : Prop} (hI : bf_In n W D p n 0 β a0 a lo) : bf_Ps n W D p a0 a lo := by
  obtain ⟨i1, i2, i3, i4, i5, i6⟩ := hI
  exact ⟨i1, i2, fun x y en => i3 x y en (Or.inl en.1), fun l => ⟨(i4 l).1, fun x y en => (i4 l).2 x y en (Or.inl en.1)⟩, i5⟩
/-- a pass settles a lag more -/
theorem bf_round {n : Nat} {W D : Nat → Nat → Int} {p : Int} {a0 a G : Nat → Int} {lo : Prop} (hG : bf_Gr n W D p G) (h0 : bf_0 n a0) (hl : bf_le n G a0)
    (hP : bf_Ps n W D p a0 a lo) : cn_t (fun v => a0 v = G v) n + 1 ≤ cn_t (fun v => a v = G v) n ∨ ∀ v, v < n → a v = G v := by
  obtain ⟨p1, p2, p3, _, _⟩ := hP
  have hg := p2 G hG.1 hl
  have fin : ∀ v, v < n → a0 v = G v → a v = G v := by
    intro v hv e
    have := p1 v hv
    have := hg v hv
    omega
  by_cases all : ∀ v, v < n → a0 v = G v
  · exact Or.inr fun v hv => fin v hv (all v hv)
  · refine Or.inl ?_
    by_cases w : ∃ b, b < n ∧ a b = G b ∧ ¬ a0 b = G b
    · obtain ⟨b, hb, h1, h2⟩ := w
      exact cn_lt b n fin hb h1 h2
    · exfalso
      have hw : ∀ b, b < n → a b = G b → a0 b = G b := fun b hb h1 => Classical.byContradiction fun z => w ⟨b, hb, h1, z⟩
      have key : ∀ f : Nat → Int, (∀ v, (a0 v = G v ∧ f v = G v) ∨ (a0 v ≠ G v ∧ f v = G v + 1)) → False := by
        intro f hf
        have f1 : bf_fe n W D p f := by
          intro u v en
          have e1 := hG.1 u v en
          have e2 := p3 u v en
          have e3 := hf u
          have e4 := hf v
          have e5 := hw u en.1
          have e6 := hg u en.1
          omega
        have f2 : bf_0 n f := by
          intro v hv
          have e1 := h0 v hv
          have e2 := hl v hv
          have e3 := hf v
          omega
        have f3 := hG.2.2 f f1 f2
        exact all fun v hv => by
          have e1 := f3 v hv
          have e2 := hf v
          omega
      refine key (fun v => if a0 v = G v then G v else G v + 1) ?_
      intro v
      by_cases z : a0 v = G v
      · exact Or.inl ⟨z, if_pos z⟩
      · exact Or.inr ⟨z, if_neg z⟩
def bf_R (n : Nat) (W D : Nat → Nat → Int) (p : Int) (R : Nat) (a : Nat → Int) : Prop :=
  bf_0 n a ∧ (∀ L, bf_fe n W D p L → bf_0 n L → bf_le n L a) ∧
  (∀ G, bf_Gr n W D p G → R ≤ cn_t (fun v => a v = G v) n ∨ ∀ v, v < n → a v = G v)
theorem bf_R0 {n : Nat} {W D : Nat → Nat → Int} {p : Int} {a : Nat → Int} (h : ∀ v, v < n → a v = 0) : bf_R n W D p 0 a :=
  ⟨fun v hv => by have := h v hv; omega, fun L _ l v hv => by have := h v hv; have := l v hv; omega, fun _ _ => Or.inl (Nat.zero_le _)⟩
theorem bf_Rs {n R : Nat} {W D : Nat → Nat → Int} {p : Int} {a0 a : Nat → Int} {lo : Prop} (h : bf_R n W D p R a0) (hP : bf_Ps n W D p a0 a lo) :
    bf_R n W D p (R + 1) a := by
  obtain ⟨h1, h2, h3⟩ := h
  have hP' := hP
  obtain ⟨p1, p2, p3, _, _⟩ := hP'
  refine ⟨fun v hv => Int.le_trans (p1 v hv) (h1 v hv), fun L l1 l2 => p2 L l1 (h2 L l1 l2), ?_⟩
  intro G hG
  have hl := h2 G hG.1 hG.2.1
  rcases bf_round hG h1 hl hP with q | q
  · rcases h3 G hG with z | z
    · exact Or.inl (by omega)
    · refine Or.inr fun v hv => ?_
      have := p1 v hv
      have := p2 G hG.1 hl v hv
      have := z v hv
      omega
  · exact Or.inr q
theorem bf_fin {n : Nat} {W D : Nat → Nat → Int} {p : Int} {a0 a : Nat → Int} {lo : Prop} (h : bf_R n W D p n a0) (hP : bf_Ps n W D p a0 a lo) :
    (¬ lo → bf_Gr n W D p a) ∧ (lo → ∀ L, bf_fe n W D p L → bf_0 n L → False) := by
  obtain ⟨h1, h2, h3⟩ := h
  obtain ⟨p1, p2, p3, p4, p5⟩ := hP
  constructor
  · intro l
    obtain ⟨e, f⟩ := p4 l
    refine ⟨bf_feC (fun v hv => (e v hv).symm) f, fun v hv => by rw [e v hv]; exact h1 v hv, fun L l1 l2 v hv => by rw [e v hv]; exact h2 L l1 l2 v hv⟩
  · intro l L l1 l2
    obtain ⟨G, hG⟩ := bf_ex (sm_t L n) L (Nat.le_refl _) l1 l2
    have eq : ∀ v, v < n → a0 v = G v := by
      rcases h3 G hG with z | z
      · exact fun v hv => cn_all (P := fun v => a0 v = G v) z v hv
      · exact z
    exact p5 (bf_feC (fun v hv => (eq v hv).symm) hG.1) l
/-- the best period and the proposed plan -/
def se_l (n : Nat) (W D : Nat → Nat → Int) (d : Nat → Int) (B : Int) (G : Nat → Int) : Prop :=
  bf_ok n W D d B G ∧ (∀ v, v < n → -4 ≤ G v ∧ G v ≤ 0) ∧ (∀ L p, bf_0 n L → bf_ok n W D d p L → B ≤ p) ∧
  (∀ L, bf_0 n L → bf_ok n W D d B L → bf_le n L G)
theorem se_uniq {n : Nat} {W D : Nat → Nat → Int} {d : Nat → Int} {B B' : Int} {G G' : Nat → Int} (h : se_l n W D d B G) (h' : se_l n W D d B' G') :
    B = B' ∧ ∀ v, v < n → G v = G' v := by
  obtain ⟨a1, a2, a3, a4⟩ := h
  obtain ⟨b1, b2, b3, b4⟩ := h'
  have g0 : bf_0 n G := fun v hv => (a2 v hv).2
  have g0' : bf_0 n G' := fun v hv => (b2 v hv).2
  have e1 := a3 G' B' g0' b1
  have e2 := b3 G B g0 a1
  have e : B = B' := by omega
  refine ⟨e, fun v hv => ?_⟩
  subst e
  have := a4 G' g0' b1 v hv
  have := b4 G g0 a1 v hv
  omega
theorem se_of {n : Nat} {W D : Nat → Nat → Int} {d : Nat → Int} {p : Int} {G : Nat → Int} (hn : n ≤ 5) (hW : bf_W n W) (hd : ∀ v, v < n → d v ≤ p) (hG : bf_Gr n W D p G)
    (hm : ∀ L q, bf_0 n L → bf_ok n W D d q L → p ≤ q) : se_l n W D d p G :=
  ⟨⟨hd, hG.1⟩, fun v hv => ⟨bf_range hn hW hG v hv, hG.2.1 v hv⟩, hm, fun L l0 l => hG.2.2 L l.2 l0⟩
theorem se_C {n : Nat} {W D : Nat → Nat → Int} {d : Nat → Int} {B : Int} {G G' : Nat → Int} (e : ∀ v, v < n → G v = G' v) (h : se_l n W D d B G) : se_l n W D d B G' := by
  obtain ⟨a1, a2, a3, a4⟩ := h
  exact ⟨⟨a1.1, bf_feC e a1.2⟩, fun v hv => by rw [← e v hv]; exact a2 v hv, a3, fun L l0 l v hv => by rw [← e v hv]; exact a4 L l0 l v hv⟩
theorem se_least (P : Nat → Prop) : ∀ N k, k ≤ N → P k → ∃ j, P j ∧ ∀ i, i < j → ¬ P i := by
  intro N
  induction N with
  | zero =>
    intro k hk h
    exact ⟨k, h, fun i hi => by omega⟩
  | succ N ih =>
    intro k hk h
    by_cases g : ∃ i, i < k ∧ P i
    · obtain ⟨i, hi, pi⟩ := g
      exact ih i (by omega) pi
    · exact ⟨k, h, fun i hi z => g ⟨i, hi, z⟩⟩
theorem se_ex {n : Nat} {W D : Nat → Nat → Int} {d : Nat → Int} {L0 : Nat → Int} (hn1 : 1 ≤ n) (hn : n ≤ 5) (hW : bf_W n W) (hd : ∀ v, v < n → 0 ≤ d v ∧ d v ≤ 9)
    (q : Nat) (h0 : bf_0 n L0) (h : bf_ok n W D d (q : Int) L0) : ∃ B G, se_l n W D d B G := by
  obtain ⟨j, ⟨L, l0, l⟩, hm⟩ := se_least (fun k => ∃ L, bf_0 n L ∧ bf_ok n W D d (k : Int) L) q q (Nat.le_refl _) ⟨L0, h0, h⟩
  obtain ⟨G, hG⟩ := bf_ex (sm_t L n) L (Nat.le_refl _) l.2 l0
  refine ⟨(j : Int), G, se_of hn hW l.1 hG ?_⟩
  intro M p m0 m
  apply Classical.byContradiction
  intro z
  have hp := m.1 0 (by omega)
  have hd0 := hd 0 (by omega)
  have ep : ((p.toNat : Nat) : Int) = p := by omega
  exact hm p.toNat (by omega) ⟨M, m0, by rw [ep]; exact m⟩
