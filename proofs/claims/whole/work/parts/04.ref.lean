/-- all that is known of a sound circuit -/
def rb_K (n m : Nat) (d : Nat → Int) (s t : Nat → Nat) (r : Nat → Int) (B : Int) (W D : Nat → Nat → Int) : Prop :=
  rb_Ci n m d s t r B ∧ mw_F n m d s t r W D ∧ mw_so n W
theorem rb_W {n m : Nat} {d : Nat → Int} {s t : Nat → Nat} {r : Nat → Int} {W D : Nat → Nat → Int} (h : mw_F n m d s t r W D) : bf_W n W :=
  fun u v hu hv => (h.1 u v hu hv).1
def lo_g (m : Nat) (s t : Nat → Nat) (r L : Nat → Int) : Prop := ∀ i, i < m → 0 ≤ r i + L (t i) - L (s i)
noncomputable def lo_h (n : Nat) (W : Nat → Nat → Int) (L : Nat → Int) (v : Nat) : Nat := cn_t (fun u => u ≠ v ∧ W u v ≠ 1000000 ∧ W u v + L v - L u = 0) n
theorem lo_hn {n : Nat} {W : Nat → Nat → Int} {L : Nat → Int} {v : Nat} (hv : v < n) : lo_h n W L v + 1 ≤ n :=
  cn_room v hv (fun z => z.1 rfl)
theorem lo_W {n m : Nat} {d : Nat → Int} {s t : Nat → Nat} {r : Nat → Int} {W D : Nat → Nat → Int} {L : Nat → Int} (hF : mw_F n m d s t r W D) (hg : lo_g m s t r L) :
    ∀ u v, u < n → v < n → W u v ≠ 1000000 → 0 ≤ W u v + L v - L u := by
  intro u v hu hv q
  refine hF.2.1 (fun u v w _ => 0 ≤ w + L v - L u) hg ?_ u v hu hv q
  intro u k v w1 w2 l1 l2 _ _ _ _ _ h1 h2
  show 0 ≤ w1 + w2 + L v - L u
  have h1' : 0 ≤ w1 + L k - L u := h1
  have h2' : 0 ≤ w2 + L v - L k := h2
  omega
theorem lo_t {n m i : Nat} {d : Nat → Int} {s t : Nat → Nat} {r : Nat → Int} {B : Int} {W D : Nat → Nat → Int} {L : Nat → Int} (hK : rb_K n m d s t r B W D) (hg : lo_g m s t r L)
    (hi : i < m) (z : r i + L (t i) - L (s i) = 0) : s i ≠ t i ∧ W (s i) (t i) ≠ 1000000 ∧ W (s i) (t i) = r i := by
  obtain ⟨hC, hF, hS⟩ := hK
  obtain ⟨s1, s2, _, _⟩ := hC.2.2 i hi
  obtain ⟨w1, w2⟩ := hF.2.2.1 i hi
  have h1 := lo_W hF hg (s i) (t i) s1 s2 w1
  have h2 : W (s i) (t i) = r i := by omega
  refine ⟨fun e => ?_, w1, h2⟩
  rw [← e] at h2 z
  have := hS (s i) s1
  omega
theorem lo_hs {n m i : Nat} {d : Nat → Int} {s t : Nat → Nat} {r : Nat → Int} {B : Int} {W D : Nat → Nat → Int} {L : Nat → Int} (hK : rb_K n m d s t r B W D) (hg : lo_g m s t r L)
    (hi : i < m) (z : r i + L (t i) - L (s i) = 0) : lo_h n W L (s i) + 1 ≤ lo_h n W L (t i) := by
  obtain ⟨t1, t2, t3⟩ := lo_t hK hg hi z
  obtain ⟨hC, hF, hS⟩ := hK
  obtain ⟨s1, s2, _, _⟩ := hC.2.2 i hi
  refine cn_lt (s i) n ?_ s1 ⟨t1, t2, by omega⟩ (fun q => q.1 rfl)
  intro u hu q
  obtain ⟨q1, q2, q3⟩ := q
  obtain ⟨c1, c2⟩ := hF.2.2.2.1 (s i) u (t i) s1 hu s2 q2 t2
  have c1 : W u (t i) ≠ 1000000 := c1
  have h1 := lo_W hF hg u (t i) hu s2 c1
  refine ⟨fun e => ?_, c1, by omega⟩
  rw [e] at c2 q3
  have := hS (t i) s2
  have := (hF.1 (t i) (t i) s2 s2).1
  omega
/-- a length is the length of a run -/
def lo_f (n : Nat) (d : Nat → Int) (W D : Nat → Nat → Int) (L f : Nat → Int) (v : Nat) : Prop :=
  f v = d v ∨ ∃ u, u < n ∧ u ≠ v ∧ W u v ≠ 1000000 ∧ W u v + L v - L u = 0 ∧ f v ≤ D u v
def lo_I (n m : Nat) (d : Nat → Int) (s t : Nat → Nat) (r : Nat → Int) (W D : Nat → Nat → Int) (L : Nat → Int) (R i : Nat) (f : Nat → Int) : Prop :=
  (∀ v, v < n → d v ≤ f v ∧ f v ≤ 9 * ((lo_h n W L v : Int) + 1) ∧ lo_f n d W D L f v) ∧
  (∀ j, j < m → r j + L (t j) - L (s j) = 0 → f (s j) + d (t j) ≤ f (t j) ∨ (j < i ∧ R + 1 ≤ lo_h n W L (s j)) ∨ (i ≤ j ∧ R ≤ lo_h n W L (s j)))
theorem lo_I0 {n m : Nat} {d : Nat → Int} {s t : Nat → Nat} {r : Nat → Int} {W D : Nat → Nat → Int} {L f : Nat → Int} (hd : ∀ v, v < n → 0 ≤ d v ∧ d v ≤ 9)
    (h : ∀ v, v < n → f v = d v) : lo_I n m d s t r W D L 0 0 f := by
  refine ⟨fun v hv => ?_, fun j hj _ => Or.inr (Or.inr ⟨by omega, by omega⟩)⟩
  have := h v hv
  have := hd v hv
  exact ⟨by omega, by omega, Or.inl (h v hv)⟩
theorem lo_keep {n m i R : Nat} {d : Nat → Int} {s t : Nat → Nat} {r : Nat → Int} {W D : Nat → Nat → Int} {L f : Nat → Int}
    (hI : lo_I n m d s t r W D L R i f) (h : r i + L (t i) - L (s i) = 0 → f (s i) + d (t i) ≤ f (t i)) : lo_I n m d s t r W D L R (i + 1) f := by
  refine ⟨hI.1, fun j hj z => ?_⟩
  by_cases e : j = i
  · rw [e] at z ⊢; exact Or.inl (h z)
  · rcases hI.2 j hj z with q | q | q
    · exact Or.inl q
    · exact Or.inr (Or.inl ⟨by omega, q.2⟩)
    · exact Or.inr (Or.inr ⟨by omega, q.2⟩)
theorem lo_step {n m i R : Nat} {d : Nat → Int} {s t : Nat → Nat} {r : Nat → Int} {B : Int} {W D : Nat → Nat → Int} {L f f' : Nat → Int} (hK : rb_K n m d s t r B W D)
    (hg : lo_g m s t r L) (hi : i < m) (hI : lo_I n m d s t r W D L R i f) (z : r i + L (t i) - L (s i) = 0) (hlt : f (t i) < f (s i) + d (t i))
    (e1 : f' (t i) = f (s i) + d (t i)) (e2 : ∀ x, x < n → x ≠ t i → f' x = f x) : lo_I n m d s t r W D L R (i + 1) f' := by
  obtain ⟨t1, t2, t3⟩ := lo_t hK hg hi z
  have hh := lo_hs hK hg hi z
  obtain ⟨hC, hF, hS⟩ := hK
  obtain ⟨s1, s2, _, _⟩ := hC.2.2 i hi
  have hd := hC.2.1
  obtain ⟨i1, i2⟩ := hI
  obtain ⟨a1, a2, a3⟩ := i1 (s i) s1
  have ds := hd (s i) s1
  have dt := hd (t i) s2
  obtain ⟨cC, cW⟩ := hF.2.2.2.2 hS
  have cw : 1000000 * W (s i) (t i) - D (s i) (t i) + d (s i) ≤ 1000000 * r i - d (t i) := cW i hi
  have vio : R ≤ lo_h n W L (s i) := by
    rcases i2 i hi z with q | q | q
    · omega
    · omega
    · exact q.2
  constructor
  · intro v hv
    by_cases e : v = t i
    · rw [e]
      refine ⟨by omega, by omega, ?_⟩
      refine Or.inr ?_
      rcases a3 with q | ⟨u, hu, q1, q2, q3, q4⟩
      · exact ⟨s i, s1, t1, t2, by omega, by omega⟩
      · obtain ⟨c1, c2⟩ := hF.2.2.2.1 (s i) u (t i) s1 hu s2 q2 t2
        have c1 : W u (t i) ≠ 1000000 := c1
        obtain ⟨_, c3⟩ := cC (s i) u (t i) s1 hu s2 q2 t2
        have c3 : 1000000 * W u (t i) - D u (t i) + d u ≤ (1000000 * W u (s i) - D u (s i) + d u) + (1000000 * W (s i) (t i) - D (s i) (t i) + d (s i)) := c3
        have h1 := lo_W hF hg u (t i) hu s2 c1
        refine ⟨u, hu, fun e' => ?_, c1, by omega, by omega⟩
        rw [e'] at c2 q3
        have := hS (t i) s2
        have := (hF.1 (t i) (t i) s2 s2).1
        omega
    · have hv' := e2 v hv e
      obtain ⟨b1, b2, b3⟩ := i1 v hv
      refine ⟨by omega, by omega, ?_⟩
      rcases b3 with q | ⟨u, hu, q1, q2, q3, q4⟩
      · exact Or.inl (by omega)
      · exact Or.inr ⟨u, hu, q1, q2, q3, by omega⟩
  · intro j hj zj
    obtain ⟨k1, k2, _, _⟩ := hC.2.2 j hj
    have et : f (t j) ≤ f' (t j) := by
      by_cases e : t j = t i
      · rw [e]; omega
      · rw [e2 (t j) k2 e]; exact Int.le_refl _
    by_cases e : s j = t i
    · have : R + 1 ≤ lo_h n W L (s j) := by rw [e]; omega
      by_cases q : j < i + 1
      · exact Or.inr (Or.inl ⟨q, this⟩)
      · exact Or.inr (Or.inr ⟨by omega, by omega⟩)
    · have es := e2 (s j) k1 e
      by_cases ej : j = i
      · rw [ej, e1, ← ej, es, ej]; exact Or.inl (Int.le_refl _)
      · rcases i2 j hj zj with q | q | q
        · exact Or.inl (by omega)
        · exact Or.inr (Or.inl ⟨by omega, q.2⟩)
        · exact Or.inr (Or.inr ⟨by omega, q.2⟩)
theorem lo_rnd {n m R : Nat} {d : Nat → Int} {s t : Nat → Nat} {r : Nat → Int} {W D : Nat → Nat → Int} {L f : Nat → Int}
    (hI : lo_I n m d s t r W D L R m f) : lo_I n m d s t r W D L (R + 1) 0 f := by
  refine ⟨hI.1, fun j hj z => ?_⟩
  rcases hI.2 j hj z with q | q | q
  · exact Or.inl q
  · exact Or.inr (Or.inr ⟨by omega, q.2⟩)
  · omega
/-- the value of a plan -/
def lo_V (n : Nat) (W D : Nat → Nat → Int) (d L : Nat → Int) (x : Int) : Prop := 0 ≤ x ∧ x ≤ 45 ∧ ∀ p, bf_ok n W D d p L ↔ x ≤ p
theorem lo_val {n m : Nat} {d : Nat → Int} {s t : Nat → Nat} {r : Nat → Int} {B : Int} {W D : Nat → Nat → Int} {L f : Nat → Int} {x : Int} (hK : rb_K n m d s t r B W D)
    (hg : lo_g m s t r L) (hI : lo_I n m d s t r W D L 5 0 f) (h1 : ∀ v, v < n → f v ≤ x) (h2 : x = 0 ∨ ∃ v, v < n ∧ f v = x) : lo_V n W D d L x := by
  obtain ⟨hC, hF, hS⟩ := hK
  have hd := hC.2.1
  have hn := hC.1
  obtain ⟨i1, i2⟩ := hI
  have sat : ∀ j, j < m → r j + L (t j) - L (s j) = 0 → f (s j) + d (t j) ≤ f (t j) := by
    intro j hj z
    obtain ⟨k1, _⟩ := hC.2.2 j hj
    have := lo_hn (W := W) (L := L) k1
    rcases i2 j hj z with q | q | q
    · exact q
    · omega
    · omega
  have att : ∃ v, v < n ∧ f v = x := by
    rcases h2 with q | q
    · refine ⟨0, by omega, ?_⟩
      have := h1 0 (by omega)
      have := i1 0 (by omega)
      have := hd 0 (by omega)
      omega
    · exact q
  obtain ⟨v0, hv0, e0⟩ := att
  obtain ⟨g1, g2, g3⟩ := i1 v0 hv0
  have g4 := lo_hn (W := W) (L := L) hv0
  have g5 := hd v0 hv0
  refine ⟨by omega, by omega, fun p => ⟨fun ok => ?_, fun hx => ⟨fun v hv => ?_, ?_⟩⟩⟩
  · rcases g3 with q | ⟨u, hu, q1, q2, q3, q4⟩
    · have := ok.1 v0 hv0
      omega
    · apply Classical.byContradiction
      intro z
      have h3 := ok.2 u v0 ⟨hu, hv0, q1, q2⟩
      rw [bf_c1 (by omega)] at h3
      omega
  · have := (i1 v hv).1
    have := h1 v hv
    omega
  · intro u v en
    obtain ⟨hu, hv, ne, way⟩ := en
    have key := hF.2.1 (fun u v w l => 0 ≤ w + L v - L u ∧ (w + L v - L u = 0 → f u + (l - d u) ≤ f v)) ?_ ?_ u v hu hv way
    · obtain ⟨k1, k2⟩ := key
      by_cases c : p < D u v
      · rw [bf_c1 c]
        have b1 := (i1 u hu).1
        have b2 := h1 v hv
        have b3 := hd u hu
        by_cases z : W u v + L v - L u = 0
        · have := k2 z
          omega
        · omega
      · rw [bf_c0 c]
        omega
    · intro i hi
      refine ⟨hg i hi, fun z => ?_⟩
      have := sat i hi z
      omega
    · intro u k v w1 w2 l1 l2 _ _ _ _ _ a1 a2
      obtain ⟨a1, b1⟩ := a1
      obtain ⟨a2, b2⟩ := a2
      refine ⟨by omega, fun z => ?_⟩
      have := b1 (by omega)
      have := b2 (by omega)
      omega
theorem lo_leg {n m : Nat} {d : Nat → Int} {s t : Nat → Nat} {r : Nat → Int} {B : Int} {W D : Nat → Nat → Int} {L : Nat → Int} {p : Int} (hC : rb_Ci n m d s t r B)
    (hF : mw_F n m d s t r W D) (h : bf_fe n W D p L) : lo_g m s t r L := by
  intro i hi
  obtain ⟨s1, s2, s3, s4⟩ := hC.2.2 i hi
  by_cases e : s i = t i
  · rw [e]; omega
  · obtain ⟨w1, w2⟩ := hF.2.2.1 i hi
    have := h (s i) (t i) ⟨s1, s2, e, w1⟩
    have := bf_cb W D p (s i) (t i)
    omega
theorem lo_g0 {n m : Nat} {d : Nat → Int} {s t : Nat → Nat} {r : Nat → Int} {B : Int} (hC : rb_Ci n m d s t r B) : lo_g m s t r (fun _ => 0) := by
  intro i hi
  obtain ⟨_, _, s3, _⟩ := hC.2.2 i hi
  show 0 ≤ r i + 0 - 0
  omega
theorem lo_45 {n m : Nat} {d : Nat → Int} {s t : Nat → Nat} {r : Nat → Int} {B : Int} {W D : Nat → Nat → Int} (hK : rb_K n m d s t r B W D) : bf_ok n W D d 45 (fun _ => 0) := by
  have hK' := hK
  obtain ⟨hC, hF, hS⟩ := hK'
  have hd := hC.2.1
  refine ⟨fun v hv => by have := hd v hv; omega, ?_⟩
  intro u v en
  obtain ⟨hu, hv, ne, way⟩ := en
  have key := hF.2.1 (fun u v w l => u < n ∧ 0 ≤ w ∧ (w = 0 → l - d u ≤ 9 * ((lo_h n W (fun _ => 0) v : Int) - (lo_h n W (fun _ => 0) u : Int)))) ?_ ?_ u v hu hv way
  · obtain ⟨_, k1, k2⟩ := key
    show (0 : Int) ≤ 0 + bf_c W D 45 u v
    by_cases c : 45 < D u v
    · rw [bf_c1 c]
      have := lo_hn (W := W) (L := fun _ => 0) hv
      have := hd u hu
      have := hC.1
      by_cases z : W u v = 0
      · have := k2 z
        omega
      · omega
    · rw [bf_c0 c]; omega
  · intro i hi
    obtain ⟨s1, s2, s3, _⟩ := hC.2.2 i hi
    refine ⟨s1, s3, fun z => ?_⟩
    have := lo_hs hK (lo_g0 hC) hi (by show r i + 0 - 0 = 0; omega)
    have := hd (t i) s2
    omega
  · intro u k v w1 w2 l1 l2 _ _ _ _ _ a1 a2
    obtain ⟨a0, a1, b1⟩ := a1
    obtain ⟨_, a2, b2⟩ := a2
    refine ⟨a0, by omega, fun z => ?_⟩
    have := b1 (by omega)
    have := b2 (by omega)
    omega
theorem se_have {n m : Nat} {d : Nat → Int} {s t : Nat → Nat} {r : Nat → Int} {B : Int} {W D : Nat → Nat → Int} (hK : rb_K n m d s t r B W D) : ∃ b G, se_l n W D d b G := by
  have h := lo_45 hK
  obtain ⟨hC, hF, _⟩ := hK
  exact se_ex hC.1.1 hC.1.2.1 (rb_W hF) hC.2.1 45 (fun _ _ => Int.le_refl 0) h
theorem se_45 {n m : Nat} {d : Nat → Int} {s t : Nat → Nat} {r : Nat → Int} {B b : Int} {W D : Nat → Nat → Int} {G : Nat → Int} (hK : rb_K n m d s t r B W D) (h : se_l n W D d b G) :
    0 ≤ b ∧ b ≤ 45 := by
  have h1 := h.2.2.1 (fun _ => 0) 45 (fun _ _ => Int.le_refl 0) (lo_45 hK)
  have h2 := h.1.1 0 (by have := hK.1.1; omega)
  have h3 := hK.1.2.1 0 (by have := hK.1.1; omega)
  omega
/-- the levels of the reference's sound -/
def so_I (n m : Nat) (s t : Nat → Nat) (r : Nat → Int) (W : Nat → Nat → Int) (R i : Nat) (f : Nat → Int) : Prop :=
  (∀ v, v < n → 0 ≤ f v ∧ f v ≤ 12 * (R : Int) + i ∧ (mw_so n W → f v ≤ lo_h n W (fun _ => 0) v)) ∧
  (∀ j, j < m → r j = 0 → f (s j) + 1 ≤ f (t j) ∨ (j < i ∧ (R : Int) + 1 ≤ f (s j)) ∨ (i ≤ j ∧ (R : Int) ≤ f (s j)))
theorem so_I0 {n m : Nat} {d : Nat → Int} {s t : Nat → Nat} {r : Nat → Int} {B : Int} {W : Nat → Nat → Int} {f : Nat → Int} (hC : rb_Ci n m d s t r B)
    (h : ∀ v, v < n → f v = 0) : so_I n m s t r W 0 0 f := by
  refine ⟨fun v hv => ?_, fun j hj _ => Or.inr (Or.inr ⟨by omega, ?_⟩)⟩
  · have := h v hv
    exact ⟨by omega, by omega, fun _ => by omega⟩
  · have := h (s j) (hC.2.2 j hj).1
    omega
theorem so_keep {n m i R : Nat} {s t : Nat → Nat} {r : Nat → Int} {W : Nat → Nat → Int} {f : Nat → Int} (hI : so_I n m s t r W R i f)
    (h : r i = 0 → f (s i) + 1 ≤ f (t i)) : so_I n m s t r W R (i + 1) f := by
  refine ⟨fun v hv => ?_, fun j hj z => ?_⟩
  · obtain ⟨h1, h2, h3⟩ := hI.1 v hv
    exact ⟨h1, by omega, h3⟩
  by_cases e : j = i
  · rw [e] at z ⊢; exact Or.inl (h z)
  · rcases hI.2 j hj z with q | q | q
    · exact Or.inl q
    · exact Or.inr (Or.inl ⟨by omega, q.2⟩)
    · exact Or.inr (Or.inr ⟨by omega, q.2⟩)
theorem so_step {n m i R : Nat} {d : Nat → Int} {s t : Nat → Nat} {r : Nat → Int} {B : Int} {W D : Nat → Nat → Int} {f f' : Nat → Int} (hC : rb_Ci n m d s t r B)
    (hF : mw_F n m d s t r W D) (hi : i < m) (hI : so_I n m s t r W R i f) (z : r i = 0) (hlt : f (t i) ≤ f (s i))
    (e1 : f' (t i) = f (s i) + 1) (e2 : ∀ x, x < n → x ≠ t i → f' x = f x) : so_I n m s t r W R (i + 1) f' := by
  obtain ⟨s1, s2, _, _⟩ := hC.2.2 i hi
  obtain ⟨i1, i2⟩ := hI
  obtain ⟨a1, a2, a3⟩ := i1 (s i) s1
  have vio : (R : Int) ≤ f (s i) := by
    rcases i2 i hi z with q | q | q
    · omega
    · omega
    · exact q.2
  constructor
  · intro v hv
    by_cases e : v = t i
    · rw [e]
      refine ⟨by omega, by omega, fun so => ?_⟩
      have := lo_hs (L := fun _ => 0) ⟨hC, hF, so⟩ (lo_g0 hC) hi (by show r i + 0 - 0 = 0; omega)
      have := a3 so
      omega
    · have hv' := e2 v hv e
      obtain ⟨b1, b2, b3⟩ := i1 v hv
      exact ⟨by omega, by omega, fun so => by have := b3 so; omega⟩
  · intro j hj zj
    obtain ⟨k1, k2, _, _⟩ := hC.2.2 j hj
    have et : f (t j) ≤ f' (t j) := by
      by_cases e : t j = t i
      · rw [e]; omega
      · rw [e2 (t j) k2 e]; exact Int.le_refl _
    by_cases e : s j = t i
    · have : (R : Int) + 1 ≤ f' (s j) := by rw [e]; omega
      by_cases q : j < i + 1
      · exact Or.inr (Or.inl ⟨q, this⟩)
      · exact Or.inr (Or.inr ⟨by omega, by omega⟩)
    · have es := e2 (s j) k1 e
      by_cases ej : j = i
      · rw [ej] at es ⊢
        exact Or.inl (by omega)
      · rcases i2 j hj zj with q | q | q
        · exact Or.inl (by omega)
        · exact Or.inr (Or.inl ⟨by omega, by omega⟩)
        · exact Or.inr (Or.inr ⟨by omega, by omega⟩)
theorem so_rnd {n m R : Nat} {s t : Nat → Nat} {r : Nat → Int} {W : Nat → Nat → Int} {f : Nat → Int} (hm : m ≤ 12)
    (hI : so_I n m s t r W R m f) : so_I n m s t r W (R + 1) 0 f := by
  refine ⟨fun v hv => ?_, fun j hj z => ?_⟩
  · obtain ⟨h1, h2, h3⟩ := hI.1 v hv
    exact ⟨h1, by omega, h3⟩
  rcases hI.2 j hj z with q | q | q
  · exact Or.inl q
  · exact Or.inr (Or.inr ⟨by omega, by omega⟩)
  · omega
theorem so_end {n m : Nat} {d : Nat → Int} {s t : Nat → Nat} {r : Nat → Int} {B : Int} {W D : Nat → Nat → Int} {f : Nat → Int} (hC : rb_Ci n m d s t r B)
    (hF : mw_F n m d s t r W D) (hI : so_I n m s t r W 6 0 f) : mw_so n W ↔ ∀ v, v < n → f v < n := by
  obtain ⟨i1, i2⟩ := hI
  have hn := hC.1
  constructor
  · intro so v hv
    have := (i1 v hv).2.2 so
    have := lo_hn (W := W) (L := fun _ => 0) hv
    omega
  · intro h x hx e
    have key := hF.2.1 (fun u v w _ => 0 ≤ w ∧ (w = 0 → f u + 1 ≤ f v)) ?_ ?_ x x hx hx (by omega)
    · have := key.2 e
      omega
    · intro i hi
      obtain ⟨s1, s2, s3, _⟩ := hC.2.2 i hi
      refine ⟨s3, fun z => ?_⟩
      have := h (s i) s1
      rcases i2 i hi z with q | q | q
      · exact q
      · omega
      · omega
    · intro u k v w1 w2 l1 l2 _ _ _ _ _ a1 a2
      obtain ⟨a1, b1⟩ := a1
      obtain ⟨a2, b2⟩ := a2
      refine ⟨by omega, fun z => ?_⟩
      have := b1 (by omega)
      have := b2 (by omega)
      omega
