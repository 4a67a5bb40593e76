variable {fn fm kn bp : Int32} {dl st en rg la le pn re : Nat → Int32}
theorem yw_wr {post : SY → Prop} {n c : Nat} (hn : n ≤ 5) (hc : c < 3125)
    (h : ∀ la' : Nat → Int32, (∀ v, v < n → rt_I la' v = fi_L c v) → post (nI n, fm, kn, bp, dl, st, en, rg, la', le, pn, re)) :
    wpY_writeLags post (nI n, fm, kn, bp, dl, st, en, rg, la, le, pn, re) (nI c) := by
  refine loop_0 (fun f i (q : Int32 × (Nat → Int32)) => wY_writeLags_4 post (nI n) fm kn bp f q.1 (nI i) dl st en rg q.2 le pn re)
    (fun i q => q.1 = nI (c / 5 ^ i) ∧ ∀ v, v < i → v < n → rt_I q.2 v = fi_L c v) 5 (nI c, la) ⟨by show nI c = nI (c / 5 ^ 0); rw [Nat.pow_zero, Nat.div_one], fun v hv => absurd hv (by omega)⟩ ?_ ?_
  · intro f q hq
    exact br_t (nI_le (a := 5) (b := 5) (Nat.le_refl _) (by decide)) (h q.2 fun v hv => hq.2 v (by omega) hv)
  · intro f i q hi hq next
    obtain ⟨x, la⟩ := q
    obtain ⟨q1, q2⟩ := hq
    have q1 : x = nI (c / 5 ^ i) := q1
    have q2 : ∀ v, v < i → v < n → rt_I la v = fi_L c v := q2
    subst q1
    have c1 : (nI i).toNatClampNeg = i := nI_clamp (by omega)
    have v1 : vp_in (nI i) 5 := vp_in_nI (by omega) (by omega)
    have hb : c / 5 ^ i < 2 ^ 31 := Nat.lt_of_le_of_lt (Nat.div_le_self _ _) (by omega)
    have dv : nI (c / 5 ^ i) / 5 = nI (c / 5 ^ (i + 1)) := by
      show nI (c / 5 ^ i) / nI 5 = _
      rw [pk_div hb (by decide) (by decide), Nat.div_div_eq_div_mul, Nat.pow_succ]
    refine br_f (nI_ge (b := 5) hi (by decide)) ?_
    by_cases e : i < n
    · refine br_f (nI_ge e (by omega)) ⟨by decide, v1, nm_r (e' := upd la i (-(nI (c / 5 ^ i) - nI (c / 5 ^ i) / 5 * 5))) (by rw [c1]) ⟨by decide, nm_r dv (nm_r (nI_1 i) (next (_, _) ⟨rfl, fun v hv hvn => ?_⟩))⟩⟩
      show rt_I (upd la i _) v = fi_L c v
      by_cases ev : v = i
      · rw [ev, it_ui]
        have rm : nI (c / 5 ^ i) - nI (c / 5 ^ i) / 5 * 5 = nI (c / 5 ^ i % 5) := pk_rem (d := 5) hb (by decide) (by decide)
        have lt : c / 5 ^ i % 5 < 5 := Nat.mod_lt _ (by decide)
        have ti : (nI (c / 5 ^ i % 5)).toInt = ((c / 5 ^ i % 5 : Nat) : Int) := nI_toInt (by omega)
        rw [rm, it_neg (by rw [ti]; omega) (by rw [ti]; omega), ti]
        rfl
      · rw [it_un ev]; exact q2 v (by omega) hvn
    · refine br_t (nI_le (by omega) (by omega)) ⟨v1, nm_r (e' := upd la i 0) (by rw [c1]) ⟨by decide, nm_r dv (nm_r (nI_1 i) (next (_, _) ⟨rfl, fun v hv hvn => ?_⟩))⟩⟩
      show rt_I (upd la i _) v = fi_L c v
      have ev : v ≠ i := by omega
      rw [it_un ev]; exact q2 v (by omega) hvn
theorem yf_a {post : SY → Prop} {J : Int32 → Int32 → Int32 → Int32 → Int32 → (Nat → Int32) → (Nat → Int32) → (Nat → Int32) → (Nat → Int32) → (Nat → Int32) → (Nat → Int32) → (Nat → Int32) → (Nat → Int32) → Prop}
    {x1 x3 : Int32} {n c : Nat} (hn : n ≤ 5)
    (hJ : ∀ pn' : Nat → Int32, (∀ v, v < n → rt_I pn' v = rt_I la v) → J (nI (c + 1)) (nI n) fm kn bp dl st en rg la le pn' re) :
    ∃ f, wY_find_122 post J x1 (nI c) x3 1 (nI n) fm kn bp f 0 dl st en rg la le pn re := by
  refine loop_0 (fun f i (q : Nat → Int32) => wY_find_122 post J x1 (nI c) x3 1 (nI n) fm kn bp f (nI i) dl st en rg la le q re)
    (fun i q => ∀ v, v < i → rt_I q v = rt_I la v) n pn (fun v hv => absurd hv (by omega)) ?_ ?_
  · intro f q hq
    exact br_t (nI_le (Nat.le_refl _) (by omega)) (nm_r (nI_1 c) (hJ q hq))
  · intro f i q hi hq next
    have c1 : (nI i).toNatClampNeg = i := nI_clamp (by omega)
    have v1 : vp_in (nI i) 5 := vp_in_nI (by omega) (by omega)
    refine br_f (nI_ge hi (by omega)) (br_f (by decide) ⟨v1, v1, nm_r (e' := upd q i (la i)) (by rw [c1]) (nm_r (nI_1 i) (next _ fun v hv => ?_))⟩)
    by_cases ev : v = i
    · rw [ev, it_ui]; rfl
    · rw [it_un ev]; exact hq v (by omega)
theorem yf_b {post : SY → Prop} {J : Int32 → Int32 → Int32 → Int32 → Int32 → (Nat → Int32) → (Nat → Int32) → (Nat → Int32) → (Nat → Int32) → (Nat → Int32) → (Nat → Int32) → (Nat → Int32) → (Nat → Int32) → Prop}
    {x1 x3 : Int32} {n c : Nat} (hn : n ≤ 5)
    (hJ : ∀ pn' : Nat → Int32, (∀ v, v < n → (x3.toInt = bp.toInt ∧ rt_I pn v < rt_I la v ∧ rt_I pn' v = rt_I la v) ∨ (¬ (x3.toInt = bp.toInt ∧ rt_I pn v < rt_I la v) ∧ rt_I pn' v = rt_I pn v)) →
      J (nI (c + 1)) (nI n) fm kn bp dl st en rg la le pn' re) :
    ∃ f, wY_find_122 post J x1 (nI c) x3 0 (nI n) fm kn bp f 0 dl st en rg la le pn re := by
  refine loop_0 (fun f i (q : Nat → Int32) => wY_find_122 post J x1 (nI c) x3 0 (nI n) fm kn bp f (nI i) dl st en rg la le q re)
    (fun i q => (∀ v, v < i → (x3.toInt = bp.toInt ∧ rt_I pn v < rt_I la v ∧ rt_I q v = rt_I la v) ∨ (¬ (x3.toInt = bp.toInt ∧ rt_I pn v < rt_I la v) ∧ rt_I q v = rt_I pn v)) ∧ ∀ v, i ≤ v → q v = pn v)
    n pn ⟨fun v hv => absurd hv (by omega), fun _ _ => rfl⟩ ?_ ?_
  · intro f q hq
    exact br_t (nI_le (Nat.le_refl _) (by omega)) (nm_r (nI_1 c) (hJ q hq.1))
  · intro f i q hi hq next
    obtain ⟨q1, q2⟩ := hq
    have c1 : (nI i).toNatClampNeg = i := nI_clamp (by omega)
    have v1 : vp_in (nI i) 5 := vp_in_nI (by omega) (by omega)
    have qi : q i = pn i := q2 i (Nat.le_refl _)
    have keep : ¬ (x3.toInt = bp.toInt ∧ rt_I pn i < rt_I la i) →
        (∀ v, v < i + 1 → (x3.toInt = bp.toInt ∧ rt_I pn v < rt_I la v ∧ rt_I q v = rt_I la v) ∨ (¬ (x3.toInt = bp.toInt ∧ rt_I pn v < rt_I la v) ∧ rt_I q v = rt_I pn v)) ∧ ∀ v, i + 1 ≤ v → q v = pn v := by
      intro k
      refine ⟨fun v hv => ?_, fun v hv => q2 v (by omega)⟩
      by_cases ev : v = i
      · rw [ev]
        refine Or.inr ⟨k, ?_⟩
        show (q i).toInt = (pn i).toInt
        rw [qi]
      · exact q1 v (by omega)
    refine br_f (nI_ge hi (by omega)) (br_t rfl ?_)
    by_cases c : x3 = bp
    · refine br_t c ⟨v1, v1, ?_⟩
      rw [c1]
      by_cases c2 : la i ≤ q i
      · refine br_t c2 (nm_r (nI_1 i) (next q (keep fun z => ?_)))
        rw [qi, it_le] at c2
        have : rt_I pn i < rt_I la i := z.2
        have c3 : rt_I la i ≤ rt_I pn i := c2
        omega
      · refine br_f c2 ⟨v1, v1, nm_r (e' := upd q i (la i)) (by rw [c1]) (nm_r (nI_1 i) (next _ ⟨fun v hv => ?_, fun v hv => ?_⟩))⟩
        · by_cases ev : v = i
          · rw [ev]
            refine Or.inl ⟨by rw [c], ?_, by rw [it_ui]; rfl⟩
            rw [qi, it_le] at c2
            have c3 : ¬ rt_I la i ≤ rt_I pn i := c2
            omega
          · rw [it_un ev]; exact q1 v (by omega)
        · rw [pk_un (by omega)]; exact q2 v (by omega)
    · exact br_f c (nm_r (nI_1 i) (next q (keep fun z => c (it_eq.mpr z.1))))
theorem lo_VC {n : Nat} {W D : Nat → Nat → Int} {d L M : Nat → Int} {x : Int} (e : ∀ v, v < n → L v = M v) (h : lo_V n W D d L x) : lo_V n W D d M x := by
  obtain ⟨h1, h2, h3⟩ := h
  refine ⟨h1, h2, fun p => ⟨fun ok => (h3 p).mp ⟨ok.1, bf_feC (fun v hv => (e v hv).symm) ok.2⟩, fun hx => ?_⟩⟩
  have ok := (h3 p).mpr hx
  exact ⟨ok.1, bf_feC e ok.2⟩
theorem yf_72 {post : SY → Prop} {n m : Nat} {B : Int} {W D : Nat → Nat → Int} {x1 : Int32} (hx1 : x1 = nI (fi_all n)) (hc : rl_C n m dl st en rg B) (hB : B ≤ 8000)
    (hK : rb_K n m (rt_I dl) (rt_N st) (rt_N en) (rt_I rg) B W D)
    (h : ∀ (bp' : Int32) (la' le' pn' : Nat → Int32), se_l n W D (rt_I dl) bp'.toInt (rt_I pn') → post (nI n, nI m, 1, bp', dl, st, en, rg, la', le', pn', re)) :
    ∃ f, wY_find_72 post x1 f 0 (nI n) (nI m) kn 100 dl st en rg la le pn re := by
  subst hx1
  have hn1 := hc.1.1.1
  have hn := hc.1.1.2.1
  have hall : fi_all n ≤ 3125 := by
    have : n = 1 ∨ n = 2 ∨ n = 3 ∨ n = 4 ∨ n = 5 := by omega
    rcases this with e | e | e | e | e <;> subst e <;> decide
  refine loop_0 (fun f i (q : Int32 × (Nat → Int32) × (Nat → Int32) × (Nat → Int32)) => wY_find_72 post (nI (fi_all n)) f (nI i) (nI n) (nI m) kn q.1 dl st en rg q.2.1 q.2.2.1 q.2.2.2 re)
    (fun i q => fi_I n W D (rt_I dl) i q.1.toInt (rt_I q.2.2.2)) (fi_all n) (100, la, le, pn) (Or.inl ⟨rfl, fun a ha => absurd ha (by omega)⟩) ?_ ?_
  · intro f q hq
    obtain ⟨b, G, hs⟩ := se_have hK
    obtain ⟨e1, e2⟩ := fi_end hn1 hn hq hs
    refine br_t (nI_le (Nat.le_refl _) (by omega)) (h q.1 q.2.1 q.2.2.1 q.2.2.2 ?_)
    rw [e1]
    exact se_C (fun v hv => (e2 v hv).symm) hs
  · intro f i q hi hq next
    obtain ⟨bp, la, le, pn⟩ := q
    have hq : fi_I n W D (rt_I dl) i bp.toInt (rt_I pn) := hq
    have next : ∀ (bp' : Int32) (la' le' pn' : Nat → Int32), fi_I n W D (rt_I dl) (i + 1) bp'.toInt (rt_I pn') →
      wY_find_72 post (nI (fi_all n)) f (nI (i + 1)) (nI n) (nI m) kn bp' dl st en rg la' le' pn' re := fun bp' la' le' pn' z => next (bp', la', le', pn') z
    refine br_f (nI_ge hi (by omega)) (yw_wr hn (by omega) ?_)
    intro la' hla
    have hl : yl_b n la' := by
      intro v hv
      have := hla v hv
      unfold fi_L at this
      omega
    refine yl_leg hc hB hl (fun hg => ?_) (fun hg => ?_)
    · refine br_f (by decide) (yl_long hc hB hl hK hg ?_)
      intro y le' hy
      have hy' := lo_VC hla hy
      by_cases c : bp ≤ y
      · refine br_t c (br_t rfl (yf_b hn ?_))
        intro pn' hp
        refine next bp la' le' pn' (fi_ge hq hy' ?_ ?_)
        · rw [it_le] at c
          omega
        · intro v hv
          rw [← hla v hv]
          exact hp v hv
      · refine br_f c (br_f (by decide) (yf_a hn ?_))
        intro pn' hp
        refine next y la' le' pn' (fi_lt hq hy' ?_ ?_)
        · rw [it_le] at c
          omega
        · intro v hv
          rw [← hla v hv]
          exact hp v hv
    · refine br_t rfl (nm_r (nI_1 i) (next bp la' le pn (fi_keep hq fun p ok => hg ?_)))
      exact lo_leg hc.1 hK.2.1 (bf_feC (fun v hv => (hla v hv).symm) ok.2)
theorem yf_fi {post : SY → Prop} {n m : Nat} {B : Int} {W D : Nat → Nat → Int} (hc : rl_C n m dl st en rg B) (hB : B ≤ 8000)
    (hK : rb_K n m (rt_I dl) (rt_N st) (rt_N en) (rt_I rg) B W D) (hk : kn = 0 ∨ (kn = 1 ∧ se_l n W D (rt_I dl) bp.toInt (rt_I pn)))
    (h : ∀ (bp' : Int32) (la' le' pn' : Nat → Int32), se_l n W D (rt_I dl) bp'.toInt (rt_I pn') → post (nI n, nI m, 1, bp', dl, st, en, rg, la', le', pn', re)) :
    wpY_find post (nI n, nI m, kn, bp, dl, st, en, rg, la, le, pn, re) := by
  have hn1 := hc.1.1.1
  have hn := hc.1.1.2.1
  rcases hk with k | ⟨k, hs⟩
  · refine br_t k ?_
    refine pk_eq n 1 (fun e => ?_) (fun e1 => pk_eq n 2 (fun e => ?_) (fun e2 => pk_eq n 3 (fun e => ?_) (fun e3 => pk_eq n 4 (fun e => ?_) (fun e4 => ?_))))
    · exact yf_72 (by rw [e]; rfl) hc hB hK h
    · exact yf_72 (by rw [e]; rfl) hc hB hK h
    · exact yf_72 (by rw [e]; rfl) hc hB hK h
    · exact yf_72 (by rw [e]; rfl) hc hB hK h
    · have e : n = 5 := by omega
      exact yf_72 (by rw [e]; rfl) hc hB hK h
  · subst k
    exact br_f (by decide) (h bp la le pn hs)
