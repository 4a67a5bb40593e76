variable {fn fm kn bp : Int32} {dl st en rg la le pn re : Nat → Int32}
theorem yi_blk {post : Int32 → Prop} {n : Nat} {p : Int32} (hn : n ≤ 5) (h1 : rt_b n p → post 1) (h0 : ¬ rt_b n p → post 0) :
    wpY_isBlock post (nI n, fm, kn, bp, dl, st, en, rg, la, le, pn, re) p := bk_c (by omega) h1 h0 h0
theorem yx_en {n m i : Nat} {B : Int} (hc : rl_C n m dl st en rg B) (hi : i < m) {N : Nat} (hN : 5 ≤ N) (hN' : N ≤ 25) : vp_in (en i) N ∧ vp_in (st i) N := by
  obtain ⟨e1, e2⟩ := hc.2 i hi
  obtain ⟨s1, s2, _, _⟩ := hc.1.2.2 i hi
  have hn := hc.1.1
  rw [e1, e2]
  exact ⟨vp_in_nI (by omega) (by omega), vp_in_nI (by omega) (by omega)⟩
def yl_b (n : Nat) (la : Nat → Int32) : Prop := ∀ v, v < n → -100 ≤ rt_I la v ∧ rt_I la v ≤ 100
theorem yu_un {post : Int32 → Prop} {n m i : Nat} {B : Int} (hc : rl_C n m dl st en rg B) (hB : B ≤ 8000) (hi : i < m) (hl : yl_b n la)
    (h : ∀ y : Int32, y.toInt = rt_I rg i + rt_I la (rt_N en i) - rt_I la (rt_N st i) → post y) :
    wpY_under post (fn, fm, kn, bp, dl, st, en, rg, la, le, pn, re) (nI i) := by
  have hm := hc.1.1.2.2
  have c1 : (nI i).toNatClampNeg = i := nI_clamp (by omega)
  have v1 : vp_in (nI i) 12 := vp_in_nI (by omega) (by omega)
  obtain ⟨x1, x2⟩ := yx_en hc hi (Nat.le_refl 5) (by omega)
  obtain ⟨s1, s2, s3, s4⟩ := hc.1.2.2 i hi
  have b1 := hl (rt_N en i) s2
  have b2 := hl (rt_N st i) s1
  refine ⟨v1, v1, by rw [c1]; exact x1, v1, by rw [c1]; exact x2, h _ ?_⟩
  rw [c1]
  show (rg i + la (rt_N en i) - la (rt_N st i)).toInt = rt_I rg i + rt_I la (rt_N en i) - rt_I la (rt_N st i)
  have a1 : (rg i + la (rt_N en i)).toInt = rt_I rg i + rt_I la (rt_N en i) :=
    it_add (by show _ ≤ rt_I rg i + rt_I la (rt_N en i); omega) (by show rt_I rg i + rt_I la (rt_N en i) < _; omega)
  have a2 := it_sub (x := rg i + la (rt_N en i)) (y := la (rt_N st i)) (by rw [a1]; show _ ≤ rt_I rg i + rt_I la (rt_N en i) - rt_I la (rt_N st i); omega)
    (by rw [a1]; show rt_I rg i + rt_I la (rt_N en i) - rt_I la (rt_N st i) < _; omega)
  rw [a2, a1]; rfl
theorem yl_leg {post : Int32 → Prop} {n m : Nat} {B : Int} (hc : rl_C n m dl st en rg B) (hB : B ≤ 8000) (hl : yl_b n la)
    (h1 : lo_g m (rt_N st) (rt_N en) (rt_I rg) (rt_I la) → post 1) (h0 : ¬ lo_g m (rt_N st) (rt_N en) (rt_I rg) (rt_I la) → post 0) :
    wpY_legal post (nI n, nI m, kn, bp, dl, st, en, rg, la, le, pn, re) := by
  have hm := hc.1.1.2.2
  refine loop_0 (fun f i (_ : Unit) => wY_legal_2 post (nI n) (nI m) kn bp dl st en rg la le pn re f (nI i))
    (fun i _ => ∀ j, j < i → 0 ≤ rt_I rg j + rt_I la (rt_N en j) - rt_I la (rt_N st j)) m () (fun x hx => absurd hx (by omega)) ?_ ?_
  · intro f q hq
    exact br_t (nI_le (Nat.le_refl _) (by omega)) (h1 hq)
  · intro f i q hi hq next
    refine br_f (nI_ge hi (by omega)) (yu_un hc hB hi hl ?_)
    intro y ey
    by_cases c : (0 : Int32) ≤ y
    · refine br_t c (nm_r (nI_1 i) (next () fun j hj => ?_))
      by_cases e : j = i
      · rw [it_le, ey, it_0] at c
        rw [e]; exact c
      · exact hq j (by omega)
    · refine br_f c (h0 fun z => c ?_)
      rw [it_le, ey, it_0]
      exact z i hi
theorem yl_max {post : Int32 → SY → Prop} {n : Nat} (hn : n ≤ 5)
    (h : ∀ y : Int32, (∀ v, v < n → rt_I le v ≤ y.toInt) → (y.toInt = 0 ∨ ∃ v, v < n ∧ rt_I le v = y.toInt) → post y (nI n, fm, kn, bp, dl, st, en, rg, la, le, pn, re)) :
    ∃ f, wY_longest_120 post (nI n) fm kn bp dl st en rg la le pn re f 0 0 := by
  refine loop_0 (fun f i (y : Int32) => wY_longest_120 post (nI n) fm kn bp dl st en rg la le pn re f y (nI i))
    (fun i y => (∀ v, v < i → rt_I le v ≤ y.toInt) ∧ (y.toInt = 0 ∨ ∃ v, v < n ∧ rt_I le v = y.toInt)) n 0 ⟨fun v hv => absurd hv (by omega), Or.inl rfl⟩ ?_ ?_
  · intro f y hy
    exact br_t (nI_le (Nat.le_refl _) (by omega)) (h y hy.1 hy.2)
  · intro f i y hi hy next
    have c1 : (nI i).toNatClampNeg = i := nI_clamp (by omega)
    have v1 : vp_in (nI i) 5 := vp_in_nI (by omega) (by omega)
    refine br_f (nI_ge hi (by omega)) ⟨v1, ?_⟩
    rw [c1]
    by_cases c : le i ≤ y
    · refine br_t c (nm_r (nI_1 i) (next y ⟨fun v hv => ?_, hy.2⟩))
      by_cases e : v = i
      · rw [e]; exact it_le.mp c
      · exact hy.1 v (by omega)
    · have c' : ¬ rt_I le i ≤ y.toInt := fun z => c (it_le.mpr z)
      refine br_f c ⟨v1, nm_e (nm_r (nI_1 i) (next _ ⟨fun v hv => ?_, Or.inr ⟨i, hi, rfl⟩⟩))⟩
      show rt_I le v ≤ rt_I le i
      by_cases e : v = i
      · rw [e]; exact Int.le_refl _
      · have := hy.1 v (by omega)
        omega
theorem yl_37 {post : Int32 → SY → Prop} {J : Int32 → (Nat → Int32) → (Nat → Int32) → (Nat → Int32) → (Nat → Int32) → (Nat → Int32) → (Nat → Int32) → (Nat → Int32) → (Nat → Int32) → Prop}
    {n m R : Nat} {B : Int} {W D : Nat → Nat → Int} (hc : rl_C n m dl st en rg B) (hB : B ≤ 8000) (hl : yl_b n la)
    (hK : rb_K n m (rt_I dl) (rt_N st) (rt_N en) (rt_I rg) B W D) (hg : lo_g m (rt_N st) (rt_N en) (rt_I rg) (rt_I la))
    (hI : lo_I n m (rt_I dl) (rt_N st) (rt_N en) (rt_I rg) W D (rt_I la) R 0 (rt_I le))
    (hJ : ∀ le' : Nat → Int32, lo_I n m (rt_I dl) (rt_N st) (rt_N en) (rt_I rg) W D (rt_I la) R m (rt_I le') → J (nI (R + 1)) dl st en rg la le' pn re) :
    ∃ f, wY_longest_37 post J (nI R) (nI n) (nI m) kn bp f 0 dl st en rg la le pn re := by
  have hn := hc.1.1.2.1
  have hm := hc.1.1.2.2
  refine loop_0 (fun f i (q : Nat → Int32) => wY_longest_37 post J (nI R) (nI n) (nI m) kn bp f (nI i) dl st en rg la q pn re)
    (fun i q => lo_I n m (rt_I dl) (rt_N st) (rt_N en) (rt_I rg) W D (rt_I la) R i (rt_I q)) m le hI ?_ ?_
  · intro f q hq
    exact br_t (nI_le (Nat.le_refl _) (by omega)) (nm_r (nI_1 R) (hJ q hq))
  · intro f i q hi hq next
    have c1 : (nI i).toNatClampNeg = i := nI_clamp (by omega)
    have v1 : vp_in (nI i) 12 := vp_in_nI (by omega) (by omega)
    obtain ⟨x1, x2⟩ := yx_en hc hi (Nat.le_refl 5) (by omega)
    obtain ⟨s1, s2, s3, s4⟩ := hc.1.2.2 i hi
    have d2 := hc.1.2.1 (rt_N en i) s2
    have d1 := hc.1.2.1 (rt_N st i) s1
    obtain ⟨g1, g2, _⟩ := hq.1 (rt_N st i) s1
    have g3 := lo_hn (W := W) (L := rt_I la) s1
    have a1 : (q (rt_N st i) + dl (rt_N en i)).toInt = rt_I q (rt_N st i) + rt_I dl (rt_N en i) :=
      it_add (by show _ ≤ rt_I q (rt_N st i) + rt_I dl (rt_N en i); omega) (by show rt_I q (rt_N st i) + rt_I dl (rt_N en i) < _; omega)
    refine br_f (nI_ge hi (by omega)) ⟨v1, by rw [c1]; exact x2, v1, by rw [c1]; exact x1, ?_⟩
    refine nm_r (e' := q (rt_N st i) + dl (rt_N en i)) (by rw [c1]; rfl) (yu_un hc hB hi hl ?_)
    intro y ey
    by_cases c : y = 0
    · refine br_t c ⟨v1, by rw [c1]; exact x1, ?_⟩
      rw [c1]
      have z : rt_I rg i + rt_I la (rt_N en i) - rt_I la (rt_N st i) = 0 := by rw [← ey, c]; rfl
      by_cases c2 : q (rt_N st i) + dl (rt_N en i) ≤ q (rt_N en i)
      · refine br_t c2 (nm_r (nI_1 i) (next q (lo_keep hq fun _ => ?_)))
        rw [it_le, a1] at c2
        exact c2
      · refine br_f c2 ⟨v1, x1, nm_e (nm_r (nI_1 i) (next _ ?_))⟩
        rw [it_le, a1] at c2
        have c3 : ¬ rt_I q (rt_N st i) + rt_I dl (rt_N en i) ≤ rt_I q (rt_N en i) := c2
        exact lo_step hK hg hi hq z (by omega) (by show rt_I (upd q (rt_N en i) _) (rt_N en i) = _; rw [it_ui]; exact a1) (fun x _ hx => it_un hx)
    · refine br_f c (nm_r (nI_1 i) (next q (lo_keep hq fun z => ?_)))
      exact absurd (it_eq.mpr (show y.toInt = (0 : Int32).toInt by rw [ey, z]; rfl)) c
theorem yl_long {post : Int32 → SY → Prop} {n m : Nat} {B : Int} {W D : Nat → Nat → Int} (hc : rl_C n m dl st en rg B) (hB : B ≤ 8000) (hl : yl_b n la)
    (hK : rb_K n m (rt_I dl) (rt_N st) (rt_N en) (rt_I rg) B W D) (hg : lo_g m (rt_N st) (rt_N en) (rt_I rg) (rt_I la))
    (h : ∀ (y : Int32) (le' : Nat → Int32), lo_V n W D (rt_I dl) (rt_I la) y.toInt → post y (nI n, nI m, kn, bp, dl, st, en, rg, la, le', pn, re)) :
    wpY_longest post (nI n, nI m, kn, bp, dl, st, en, rg, la, le, pn, re) := by
  have hn := hc.1.1.2.1
  have rounds : ∀ le : Nat → Int32, (∀ v, v < n → rt_I le v = rt_I dl v) → ∃ f, wY_longest_30 post (nI n) (nI m) kn bp f 0 dl st en rg la le pn re := by
    intro le h0
    refine loop_0 (fun f i (q : Nat → Int32) => wY_longest_30 post (nI n) (nI m) kn bp f (nI i) dl st en rg la q pn re)
      (fun i q => lo_I n m (rt_I dl) (rt_N st) (rt_N en) (rt_I rg) W D (rt_I la) i 0 (rt_I q)) 5 le (lo_I0 hc.1.2.1 h0) ?_ ?_
    · intro f q hq
      refine br_t (nI_le (a := 5) (b := 5) (Nat.le_refl _) (by decide)) (yl_max hn ?_)
      intro y y1 y2
      exact h y q (lo_val hK hg hq y1 y2)
    · intro f i q hi hq next
      refine br_f (nI_ge (b := 5) hi (by decide)) (yl_37 hc hB hl hK hg hq ?_)
      intro le' hr
      exact next le' (lo_rnd hr)
  refine loop_0 (fun f i (q : Nat → Int32) => wY_longest_2 post (nI n) (nI m) kn bp f (nI i) dl st en rg la q pn re)
    (fun i q => ∀ v, v < i → rt_I q v = rt_I dl v) n le (fun v hv => absurd hv (by omega)) ?_ ?_
  · intro f q hq
    exact br_t (nI_le (Nat.le_refl _) (by omega)) (rounds q hq)
  · intro f i q hi hq next
    have c1 : (nI i).toNatClampNeg = i := nI_clamp (by omega)
    have v1 : vp_in (nI i) 5 := vp_in_nI (by omega) (by omega)
    refine br_f (nI_ge hi (by omega)) ⟨v1, v1, nm_r (e' := upd q i (dl i)) (by rw [c1]) (nm_r (nI_1 i) (next _ fun v hv => ?_))⟩
    by_cases e : v = i
    · rw [e, it_ui]; rfl
    · rw [it_un e]; exact hq v (by omega)
theorem yn_no {post : SY → Prop} (h : ∀ la' : Nat → Int32, (∀ v, v < 5 → rt_I la' v = 0) → post (fn, fm, kn, bp, dl, st, en, rg, la', le, pn, re)) :
    wpY_noLags post (fn, fm, kn, bp, dl, st, en, rg, la, le, pn, re) := by
  refine loop_0 (fun f i (q : Nat → Int32) => wY_noLags_2 post fn fm kn bp f (nI i) dl st en rg q le pn re)
    (fun i q => ∀ v, v < i → rt_I q v = 0) 5 la (fun v hv => absurd hv (by omega)) ?_ ?_
  · intro f q hq
    exact br_t (nI_le (a := 5) (b := 5) (Nat.le_refl _) (by decide)) (h q hq)
  · intro f i q hi hq next
    have c1 : (nI i).toNatClampNeg = i := nI_clamp (by omega)
    refine br_f (nI_ge (b := 5) hi (by decide)) ⟨vp_in_nI (by omega) (by omega), nm_r (e' := upd q i 0) (by rw [c1]) (nm_r (nI_1 i) (next _ fun v hv => ?_))⟩
    by_cases e : v = i
    · rw [e, it_ui]; rfl
    · rw [it_un e]; exact hq v (by omega)
theorem ys_37 {post : Int32 → SY → Prop} {J : Int32 → (Nat → Int32) → (Nat → Int32) → (Nat → Int32) → (Nat → Int32) → (Nat → Int32) → (Nat → Int32) → (Nat → Int32) → (Nat → Int32) → Prop}
    {n m R : Nat} {B : Int} {W D : Nat → Nat → Int} (hR : R < 6) (hc : rl_C n m dl st en rg B) (hF : mw_F n m (rt_I dl) (rt_N st) (rt_N en) (rt_I rg) W D)
    (hI : so_I n m (rt_N st) (rt_N en) (rt_I rg) W R 0 (rt_I le))
    (hJ : ∀ le' : Nat → Int32, so_I n m (rt_N st) (rt_N en) (rt_I rg) W R m (rt_I le') → J (nI (R + 1)) dl st en rg la le' pn re) :
    ∃ f, wY_sound_37 post J (nI R) (nI n) (nI m) kn bp f 0 dl st en rg la le pn re := by
  have hn := hc.1.1.2.1
  have hm := hc.1.1.2.2
  refine loop_0 (fun f i (q : Nat → Int32) => wY_sound_37 post J (nI R) (nI n) (nI m) kn bp f (nI i) dl st en rg la q pn re)
    (fun i q => so_I n m (rt_N st) (rt_N en) (rt_I rg) W R i (rt_I q)) m le hI ?_ ?_
  · intro f q hq
    exact br_t (nI_le (Nat.le_refl _) (by omega)) (nm_r (nI_1 R) (hJ q hq))
  · intro f i q hi hq next
    have c1 : (nI i).toNatClampNeg = i := nI_clamp (by omega)
    have v1 : vp_in (nI i) 12 := vp_in_nI (by omega) (by omega)
    obtain ⟨x1, x2⟩ := yx_en hc hi (Nat.le_refl 5) (by omega)
    obtain ⟨s1, s2, s3, s4⟩ := hc.1.2.2 i hi
    obtain ⟨g1, g2, _⟩ := hq.1 (rt_N st i) s1
    refine br_f (nI_ge hi (by omega)) ⟨v1, ?_⟩
    rw [c1]
    by_cases c : rg i = 0
    · have z : rt_I rg i = 0 := it_eq.mp c
      refine br_t c ⟨v1, x1, v1, x2, ?_⟩
      by_cases c2 : q (rt_N st i) < q (rt_N en i)
      · refine br_t c2 (nm_r (nI_1 i) (next q (so_keep hq fun _ => ?_)))
        have : rt_I q (rt_N st i) < rt_I q (rt_N en i) := it_lt.mp c2
        omega
      · refine br_f c2 ⟨v1, v1, x2, x1, nm_e (nm_r (nI_1 i) (next _ ?_))⟩
        have c3 : ¬ rt_I q (rt_N st i) < rt_I q (rt_N en i) := fun y => c2 (it_lt.mpr y)
        have a1 : (q (rt_N st i) + 1).toInt = rt_I q (rt_N st i) + 1 := it_add (by rw [it_1]; show _ ≤ rt_I q (rt_N st i) + 1; omega) (by rw [it_1]; show rt_I q (rt_N st i) + 1 < _; omega)
        exact so_step hc.1 hF hi hq z (by omega) (by show rt_I (upd q (rt_N en i) _) (rt_N en i) = _; rw [it_ui]; exact a1) (fun x _ hx => it_un hx)
    · refine br_f c (nm_r (nI_1 i) (next q (so_keep hq fun z => ?_)))
      exact absurd (it_eq.mpr (show (rg i).toInt = (0 : Int32).toInt from z)) c
theorem ys_so {post : Int32 → SY → Prop} {n m : Nat} {B : Int} {W D : Nat → Nat → Int} (hc : rl_C n m dl st en rg B) (hF : mw_F n m (rt_I dl) (rt_N st) (rt_N en) (rt_I rg) W D)
    (h1 : ∀ la' le' : Nat → Int32, (∀ v, v < 5 → rt_I la' v = 0) → mw_so n W → post 1 (nI n, nI m, kn, bp, dl, st, en, rg, la', le', pn, re))
    (h0 : ∀ la' le' : Nat → Int32, ¬ mw_so n W → post 0 (nI n, nI m, kn, bp, dl, st, en, rg, la', le', pn, re)) :
    wpY_sound post (nI n, nI m, kn, bp, dl, st, en, rg, la, le, pn, re) := by
  have hn := hc.1.1.2.1
  have hm := hc.1.1.2.2
  unfold wpY_sound
  refine yn_no ?_
  intro la' hla
  have last : ∀ le : Nat → Int32, so_I n m (rt_N st) (rt_N en) (rt_I rg) W 6 0 (rt_I le) → ∃ f, wY_sound_117 post (nI n) (nI m) kn bp dl st en rg la' le pn re f 0 := by
    intro le hle
    have iff := so_end hc.1 hF hle
    refine loop_0 (fun f i (_ : Unit) => wY_sound_117 post (nI n) (nI m) kn bp dl st en rg la' le pn re f (nI i))
      (fun i _ => ∀ v, v < i → rt_I le v < n) n () (fun v hv => absurd hv (by omega)) ?_ ?_
    · intro f q hq
      exact br_t (nI_le (Nat.le_refl _) (by omega)) (h1 la' le hla (iff.mpr hq))
    · intro f i q hi hq next
      have c1 : (nI i).toNatClampNeg = i := nI_clamp (by omega)
      have tn : (nI n).toInt = (n : Int) := nI_toInt (by omega)
      refine br_f (nI_ge hi (by omega)) ⟨vp_in_nI (by omega) (by omega), ?_⟩
      rw [c1]
      by_cases c : le i < nI n
      · refine br_t c (nm_r (nI_1 i) (next () fun v hv => ?_))
        by_cases e : v = i
        · rw [it_lt, tn] at c
          rw [e]; exact c
        · exact hq v (by omega)
      · refine br_f c (h0 la' le fun so => c ?_)
        rw [it_lt, tn]
        exact iff.mp so i hi
  have rounds : ∀ le : Nat → Int32, (∀ v, v < n → rt_I le v = 0) → ∃ f, wY_sound_29 post (nI n) (nI m) kn bp f 0 dl st en rg la' le pn re := by
    intro le hle
    refine loop_0 (fun f i (q : Nat → Int32) => wY_sound_29 post (nI n) (nI m) kn bp f (nI i) dl st en rg la' q pn re)
      (fun i q => so_I n m (rt_N st) (rt_N en) (rt_I rg) W i 0 (rt_I q)) 6 le (so_I0 hc.1 hle) ?_ ?_
    · intro f q hq
      exact br_t (nI_le (a := 6) (b := 6) (Nat.le_refl _) (by decide)) (last q hq)
    · intro f i q hi hq next
      refine br_f (nI_ge (b := 6) hi (by decide)) (ys_37 hi hc hF hq ?_)
      intro le' hr
      exact next le' (so_rnd hm hr)
  refine loop_0 (fun f i (q : Nat → Int32) => wY_sound_6 post (nI n) (nI m) kn bp f (nI i) dl st en rg la' q pn re)
    (fun i q => ∀ v, v < i → rt_I q v = 0) n le (fun v hv => absurd hv (by omega)) ?_ ?_
  · intro f q hq
    exact br_t (nI_le (Nat.le_refl _) (by omega)) (rounds q hq)
  · intro f i q hi hq next
    have c1 : (nI i).toNatClampNeg = i := nI_clamp (by omega)
    refine br_f (nI_ge hi (by omega)) ⟨vp_in_nI (by omega) (by omega), nm_r (e' := upd q i 0) (by rw [c1]) (nm_r (nI_1 i) (next _ fun v hv => ?_))⟩
    by_cases e : v = i
    · rw [e, it_ui]; rfl
    · rw [it_un e]; exact hq v (by omega)
