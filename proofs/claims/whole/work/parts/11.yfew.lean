variable {fn fm kn bp : Int32} {dl st en rg la le pn re : Nat → Int32}
theorem yr_85 {post : Int32 → SY → Prop} {J40 J49 : Int32 → (Nat → Int32) → (Nat → Int32) → (Nat → Int32) → (Nat → Int32) → (Nat → Int32) → (Nat → Int32) → (Nat → Int32) → (Nat → Int32) → Prop}
    {x1 x2 x3 z0 : Int32} {n m u i : Nat} {B b : Int} {W D : Nat → Nat → Int} {f0 : Nat → Int} (hc : rl_C n m dl st en rg B) (hB : B ≤ 2100) (hb : 0 ≤ b ∧ b ≤ 1000000) (hu : u < n)
    (hF : mw_F n m (rt_I dl) (rt_N st) (rt_N en) (rt_I rg) W D) (hi : i < m)
    (hI : re_I n m u (rt_N st) (rt_N en) (rt_I rg) W b i f0 (rt_I re)) (hz : z0.toInt = re_w u (rt_N st) (rt_I re) i)
    (hJ : ∀ re' : Nat → Int32, re_I n m u (rt_N st) (rt_N en) (rt_I rg) W b (i + 1) f0 (rt_I re') → J49 (nI (i + 1)) dl st en rg la le pn re') :
    wY_fewest_85 post J40 J49 x1 x2 x3 (nI i) z0 fn fm kn bp dl st en rg la le pn re := by
  have hn := hc.1.1.2.1
  have hm := hc.1.1.2.2
  have c1 : (nI i).toNatClampNeg = i := nI_clamp (by omega)
  have v1 : vp_in (nI i) 12 := vp_in_nI (by omega) (by omega)
  obtain ⟨x1', x2'⟩ := yx_en hc hi (N := 25) (by omega) (Nat.le_refl _)
  obtain ⟨s1, s2, s3, s4⟩ := hc.1.2.2 i hi
  unfold wY_fewest_85
  rw [c1]
  by_cases c : z0 < 0
  · refine br_t c (nm_r (nI_1 i) (hJ re (re_keep hc.1 hi hI (Or.inl ?_))))
    rw [it_lt, hz] at c
    exact c
  · have c' : 0 ≤ re_w u (rt_N st) (rt_I re) i := by
      rw [it_lt, hz, it_0] at c
      omega
    have zb : re_w u (rt_N st) (rt_I re) i ≤ b + 2100 * (i : Int) := by
      unfold re_w
      by_cases q : rt_N st i = u
      · rw [if_pos q]; omega
      · rw [if_neg q]; exact hI.2.2.2 (rt_N st i) s1
    have a1 : (z0 + rg i).toInt = re_w u (rt_N st) (rt_I re) i + rt_I rg i := by
      have := it_add (x := z0) (y := rg i) (by rw [hz]; show _ ≤ re_w u (rt_N st) (rt_I re) i + rt_I rg i; omega) (by rw [hz]; show re_w u (rt_N st) (rt_I re) i + rt_I rg i < _; omega)
      rw [this, hz]; rfl
    have put : (rt_I re (rt_N en i) < 0 ∨ re_w u (rt_N st) (rt_I re) i + rt_I rg i < rt_I re (rt_N en i)) →
        wY_fewest_132 post J40 J49 x1 x2 x3 (nI i) z0 fn fm kn bp dl st en rg la le pn re := by
      intro k
      refine ⟨v1, v1, by rw [c1]; exact x1', nm_r (e' := upd re (rt_N en i) (z0 + rg i)) (by rw [c1]; rfl) (nm_r (nI_1 i) (hJ _ ?_))⟩
      exact re_step hc.1 hB hb.1 hF hu hi hI c' k (by rw [it_ui]; exact a1) (fun x _ hx => it_un hx)
    refine br_f c ⟨v1, x1', ?_⟩
    by_cases c2 : re (rt_N en i) < 0
    · refine br_t c2 (put (Or.inl ?_))
      exact it_lt.mp c2
    · refine br_f c2 ⟨v1, v1, x1', ?_⟩
      have c2' : ¬ rt_I re (rt_N en i) < 0 := fun z => c2 (it_lt.mpr z)
      by_cases c3 : re (rt_N en i) ≤ z0 + rg i
      · refine br_t c3 (nm_r (nI_1 i) (hJ re (re_keep hc.1 hi hI (Or.inr ⟨by omega, ?_⟩))))
        rw [it_le, a1] at c3
        exact c3
      · refine br_f c3 (put (Or.inr ?_))
        rw [it_le, a1] at c3
        have c4 : ¬ rt_I re (rt_N en i) ≤ re_w u (rt_N st) (rt_I re) i + rt_I rg i := c3
        omega
theorem yr_49 {post : Int32 → SY → Prop} {J40 : Int32 → (Nat → Int32) → (Nat → Int32) → (Nat → Int32) → (Nat → Int32) → (Nat → Int32) → (Nat → Int32) → (Nat → Int32) → (Nat → Int32) → Prop}
    {x2 : Int32} {n m u R : Nat} {B b : Int} {W D : Nat → Nat → Int} (hc : rl_C n m dl st en rg B) (hB : B ≤ 2100) (hb : 0 ≤ b ∧ b ≤ 1000000) (hu : u < n)
    (hF : mw_F n m (rt_I dl) (rt_N st) (rt_N en) (rt_I rg) W D)
    (hI : re_I n m u (rt_N st) (rt_N en) (rt_I rg) W b 0 (rt_I re) (rt_I re))
    (hJ : ∀ re' : Nat → Int32, re_I n m u (rt_N st) (rt_N en) (rt_I rg) W b m (rt_I re) (rt_I re') → J40 (nI (R + 1)) dl st en rg la le pn re') :
    ∃ f, wY_fewest_49 post J40 (nI u) x2 (nI R) (nI n) (nI m) kn bp f 0 dl st en rg la le pn re := by
  have hn := hc.1.1.2.1
  have hm := hc.1.1.2.2
  refine loop_0 (fun f i (q : Nat → Int32) => wY_fewest_49 post J40 (nI u) x2 (nI R) (nI n) (nI m) kn bp f (nI i) dl st en rg la le pn q)
    (fun i q => re_I n m u (rt_N st) (rt_N en) (rt_I rg) W b i (rt_I re) (rt_I q)) m re hI ?_ ?_
  · intro f q hq
    exact br_t (nI_le (Nat.le_refl _) (by omega)) (nm_r (nI_1 R) (hJ q hq))
  · intro f i q hi hq next
    have c1 : (nI i).toNatClampNeg = i := nI_clamp (by omega)
    have v1 : vp_in (nI i) 12 := vp_in_nI (by omega) (by omega)
    obtain ⟨x1', x2'⟩ := yx_en hc hi (N := 25) (by omega) (Nat.le_refl _)
    obtain ⟨s1, s2, s3, s4⟩ := hc.1.2.2 i hi
    obtain ⟨e1, e2⟩ := hc.2 i hi
    refine br_f (nI_ge hi (by omega)) ⟨v1, ?_⟩
    rw [c1]
    by_cases c : rt_N st i = u
    · refine br_t (by rw [e1, c]) (yr_85 hc hB hb hu hF hi hq ?_ next)
      unfold re_w
      rw [if_pos c]; rfl
    · refine br_f (fun z => c ?_) ⟨v1, x2', yr_85 hc hB hb hu hF hi hq ?_ next⟩
      · rw [e1] at z
        exact (nI_eq (by omega) (by omega)).mp z
      · unfold re_w
        rw [if_neg c]; rfl
theorem yr_few {post : Int32 → SY → Prop} {n m u v : Nat} {B : Int} {W D : Nat → Nat → Int} (hc : rl_C n m dl st en rg B) (hB : B ≤ 2100) (hu : u < n) (hv : v < n)
    (hF : mw_F n m (rt_I dl) (rt_N st) (rt_N en) (rt_I rg) W D)
    (h0 : ∀ re' : Nat → Int32, W u v = 1000000 → post (-2) (nI n, nI m, kn, bp, dl, st, en, rg, la, le, pn, re'))
    (h1 : ∀ (y : Int32) (re' : Nat → Int32), W u v ≠ 1000000 → y.toInt = W u v → post y (nI n, nI m, kn, bp, dl, st, en, rg, la, le, pn, re')) :
    ∃ f, wY_fewest_20 post (nI u) (nI v) (nI n) (nI m) kn bp f 0 dl st en rg la le pn re := by
  have hn := hc.1.1.2.1
  have rounds : ∀ re : Nat → Int32, (∀ v, v < n → rt_I re v = -1) → ∃ f, wY_fewest_40 post (nI u) (nI v) (nI n) (nI m) kn bp f 0 dl st en rg la le pn re := by
    intro re hre
    refine loop_0 (fun f i (q : Nat → Int32) => wY_fewest_40 post (nI u) (nI v) (nI n) (nI m) kn bp f (nI i) dl st en rg la le pn q)
      (fun i q => re_R n u W i (rt_I q)) 6 re ⟨fun v hv => Or.inl (hre v hv), Or.inl (Nat.zero_le _), fun v hv => by have := hre v hv; omega⟩ ?_ ?_
    · intro f q hq
      have cv : (nI v).toNatClampNeg = v := nI_clamp (by omega)
      have vv : vp_in (nI v) 25 := vp_in_nI (by omega) (by omega)
      have w0 := (hF.1 u v hu hv).1
      refine br_t (nI_le (a := 6) (b := 6) (Nat.le_refl _) (by decide)) ⟨vv, ?_⟩
      rw [cv]
      rcases re_end hn hq v hv with ⟨e1, e2⟩ | ⟨e1, e2⟩
      · refine br_f (fun z => ?_) (h0 q e1)
        rw [it_le, it_0] at z
        have z' : 0 ≤ rt_I q v := z
        omega
      · refine br_t ?_ ⟨vv, h1 (q v) q e1 e2⟩
        rw [it_le, it_0]
        show 0 ≤ rt_I q v
        omega
    · intro f i q hi hq next
      refine br_f (nI_ge (b := 6) hi (by decide)) (yr_49 (b := 25200 * (i : Int)) hc hB ⟨by omega, by omega⟩ hu hF (re_start hq.1 hq.2.2) ?_)
      intro re' hr
      exact next re' (re_rnd hc.1 hF hu hq hr)
  refine loop_0 (fun f i (q : Nat → Int32) => wY_fewest_20 post (nI u) (nI v) (nI n) (nI m) kn bp f (nI i) dl st en rg la le pn q)
    (fun i q => ∀ v, v < i → rt_I q v = -1) 5 re (fun v hv => absurd hv (by omega)) ?_ ?_
  · intro f q hq
    exact br_t (nI_le (a := 5) (b := 5) (Nat.le_refl _) (by decide)) (rounds q fun v hv => hq v (by omega))
  · intro f i q hi hq next
    have c1 : (nI i).toNatClampNeg = i := nI_clamp (by omega)
    refine br_f (nI_ge (b := 5) hi (by decide)) ⟨vp_in_nI (by omega) (by omega), nm_r (e' := upd q i (-1)) (by rw [c1]) (nm_r (nI_1 i) (next _ fun v hv => ?_))⟩
    by_cases e : v = i
    · rw [e, it_ui]; rfl
    · rw [it_un e]; exact hq v (by omega)
