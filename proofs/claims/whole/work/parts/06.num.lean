theorem pk_us {f : Nat → Int32} {k : Nat} {x : Int32} : upd f k x k = x := if_pos rfl
theorem pk_un {f : Nat → Int32} {k j : Nat} {x : Int32} (h : j ≠ k) : upd f k x j = f j := if_neg h
theorem pk_sub {a b : Nat} (h : b ≤ a) : nI a - nI b = nI (a - b) := by
  obtain ⟨c, rfl⟩ : ∃ c, a = c + b := ⟨a - b, by omega⟩
  rw [← nI_add, Int32.add_sub_cancel, Nat.add_sub_cancel]
theorem pk_m1 (n : Nat) : nI (n + 1) + (-1) = nI n := by
  rw [← nI_1, Int32.add_assoc, show (1 : Int32) + (-1) = 0 from rfl, Int32.add_zero]
theorem pk_mul (a b : Nat) : nI a * nI b = nI (a * b) := (Int32.ofNat_mul a b).symm
theorem pk_div {a d : Nat} (ha : a < 2 ^ 31) (h0 : 0 < d) (hd : d < 2 ^ 31) : nI a / nI d = nI (a / d) := by
  apply Int32.toInt_inj.mp
  rw [lg_idiv_nonneg (by rw [nI_toInt ha]; omega) (by rw [nI_toInt hd]; omega), nI_toInt ha, nI_toInt hd, nI_toInt (Nat.lt_of_le_of_lt (Nat.div_le_self a d) ha)]
  first | rfl | exact (Int.natCast_ediv _ _).symm
theorem pk_rem {a d : Nat} (ha : a < 2 ^ 31) (h0 : 0 < d) (hd : d < 2 ^ 31) : nI a - nI a / nI d * nI d = nI (a % d) := by
  rw [pk_div ha h0 hd, pk_mul, pk_sub (Nat.div_mul_le_self a d)]
  exact congrArg nI (by have := Nat.div_add_mod' a d; omega)
theorem pk_ix (x : Int32) {n : Nat} (hn : n < 2 ^ 31) : x < 0 ∨ nI n ≤ x ∨ ∃ j : Nat, j < n ∧ x = nI j := by
  by_cases h : x < 0
  · exact Or.inl h
  · obtain ⟨j, hj, rfl⟩ := nI_of h
    by_cases h2 : j < n
    · exact Or.inr (Or.inr ⟨j, h2, rfl⟩)
    · exact Or.inr (Or.inl (nI_le (by omega) hj))
theorem pk_le {x y : Int32} {A B : Prop} (a b : Nat) (f : a ≤ b → A) (g : b < a → B) (hx : x = nI a := by rfl) (hy : y = nI b := by rfl) (ha : a < 2 ^ 31 := by omega) (hb : b < 2 ^ 31 := by omega) : (x ≤ y → A) ∧ (¬ x ≤ y → B) := by
  subst hx hy
  rw [nI_leI ha hb]
  exact ⟨f, fun z => g (by omega)⟩
theorem pk_lt {x y : Int32} {A B : Prop} (a b : Nat) (f : a < b → A) (g : b ≤ a → B) (hx : x = nI a := by rfl) (hy : y = nI b := by rfl) (ha : a < 2 ^ 31 := by omega) (hb : b < 2 ^ 31 := by omega) : (x < y → A) ∧ (¬ x < y → B) := by
  subst hx hy
  rw [nI_ltI ha hb]
  exact ⟨f, fun z => g (by omega)⟩
theorem pk_eq {x y : Int32} {A B : Prop} (a b : Nat) (f : a = b → A) (g : a ≠ b → B) (hx : x = nI a := by rfl) (hy : y = nI b := by rfl) (ha : a < 2 ^ 31 := by omega) (hb : b < 2 ^ 31 := by omega) : (x = y → A) ∧ (¬ x = y → B) := by
  subst hx hy
  rw [nI_eq ha hb]
  exact ⟨f, g⟩
theorem pk_in {x : Int32} (n N : Nat) (h : n < N) (hx : x = nI n := by rfl) (hN : N < 2 ^ 31 := by omega) : vp_in x N := by
  subst hx
  exact vp_in_nI h hN
theorem pk_cl {x : Int32} (n : Nat) (hx : x = nI n := by rfl) (h : n < 2 ^ 31 := by omega) : x.toNatClampNeg = n := by
  subst hx
  exact nI_clamp h
theorem pk_loop {σ : Type} (W : Nat → Nat → σ → Prop) (I : Nat → σ → Prop) (e i0 : Nat) (s : σ) (hi : i0 ≤ e) (h0 : I i0 s) (hx : ∀ n s, I e s → W (n + 1) e s)
    (hs : ∀ n i s, i < e → I i s → (∀ s', I (i + 1) s' → W n (i + 1) s') → W (n + 1) i s) : ∃ n, W n i0 s :=
  ⟨e + 1, loop_i W I e hx hs (e + 1) i0 s hi (by omega) h0⟩
def rt_I (a : Nat → Int32) : Nat → Int := fun j => (a j).toInt
def rt_N (a : Nat → Int32) : Nat → Nat := fun j => (a j).toNatClampNeg
def rt_M (a : Nat → Int32) : Nat → Nat → Int := fun u v => (a (u * 5 + v)).toInt
theorem it_bm {x : Int} (h1 : -2147483648 ≤ x) (h2 : x < 2147483648) : x.bmod (2 ^ 32) = x := by
  have e : ((2 ^ 32 : Nat) : Int) = 4294967296 := rfl
  exact Int.bmod_eq_of_le_mul_two (by rw [e]; omega) (by rw [e]; omega)
theorem it_add {x y : Int32} (h1 : -2147483648 ≤ x.toInt + y.toInt) (h2 : x.toInt + y.toInt < 2147483648) : (x + y).toInt = x.toInt + y.toInt := by
  rw [Int32.toInt_add]; exact it_bm h1 h2
theorem it_sub {x y : Int32} (h1 : -2147483648 ≤ x.toInt - y.toInt) (h2 : x.toInt - y.toInt < 2147483648) : (x - y).toInt = x.toInt - y.toInt := by
  rw [Int32.toInt_sub]; exact it_bm h1 h2
theorem it_neg {x : Int32} (h1 : -2147483648 ≤ -x.toInt) (h2 : -x.toInt < 2147483648) : (-x).toInt = -x.toInt := by
  rw [Int32.toInt_neg]; exact it_bm h1 h2
theorem it_lt {x y : Int32} : x < y ↔ x.toInt < y.toInt := Int32.lt_iff_toInt_lt
theorem it_le {x y : Int32} : x ≤ y ↔ x.toInt ≤ y.toInt := Int32.le_iff_toInt_le
theorem it_eq {x y : Int32} : x = y ↔ x.toInt = y.toInt := Int32.toInt_inj.symm
theorem it_cl (x : Int32) : x.toNatClampNeg = x.toInt.toNat := rfl
theorem it_nI {x : Int32} (h : 0 ≤ x.toInt) : x = nI x.toNatClampNeg := by
  have h1 : ¬ x < 0 := by rw [it_lt, show (0 : Int32).toInt = 0 from rfl]; omega
  obtain ⟨j, hj, e⟩ := nI_of h1
  rw [e, nI_clamp hj]
theorem it_0 : (0 : Int32).toInt = 0 := rfl
theorem it_1 : (1 : Int32).toInt = 1 := rfl
theorem it_m1 : (-1 : Int32).toInt = -1 := rfl
theorem it_M : (1000000 : Int32).toInt = 1000000 := rfl
theorem it_ui {a : Nat → Int32} {k : Nat} {x : Int32} : rt_I (upd a k x) k = x.toInt := by
  show (if k = k then x else a k).toInt = _
  rw [if_pos rfl]
theorem it_un {a : Nat → Int32} {k j : Nat} {x : Int32} (h : j ≠ k) : rt_I (upd a k x) j = rt_I a j := by
  show (if j = k then x else a j).toInt = _
  rw [if_neg h]; rfl
theorem mt_us {a : Nat → Int32} {u v : Nat} {x : Int32} : rt_M (upd a (u * 5 + v) x) u v = x.toInt := by
  show (if u * 5 + v = u * 5 + v then x else a (u * 5 + v)).toInt = _
  rw [if_pos rfl]
theorem mt_un {a : Nat → Int32} {u v u' v' : Nat} {x : Int32} (hv : v < 5) (hv' : v' < 5) (h : ¬ (u' = u ∧ v' = v)) : rt_M (upd a (u * 5 + v) x) u' v' = rt_M a u' v' := by
  show (if u' * 5 + v' = u * 5 + v then x else a (u' * 5 + v')).toInt = _
  rw [if_neg (by omega)]; rfl
/-- the circuit as the two states hold it -/
def rl_C (n m : Nat) (dl st en rg : Nat → Int32) (B : Int) : Prop :=
  rb_Ci n m (rt_I dl) (rt_N st) (rt_N en) (rt_I rg) B ∧ ∀ i, i < m → st i = nI (rt_N st i) ∧ en i = nI (rt_N en i)
/-- what measureWays leaves in the two tables -/
def rl_F (n m : Nat) (dl st en rg fw sl : Nat → Int32) : Prop := mw_F n m (rt_I dl) (rt_N st) (rt_N en) (rt_I rg) (rt_M fw) (rt_M sl)
