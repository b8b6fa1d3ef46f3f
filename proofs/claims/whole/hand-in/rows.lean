section
theorem pk_us {f : Nat → Int32} {k : Nat} {x : Int32} : upd f k x k = x := if_pos rfl
theorem pk_un {f : Nat → Int32} {k j : Nat} {x : Int32} (h : j ≠ k) : upd f k x j = f j := if_neg h
theorem pk_sub {a b : Nat} (h : b ≤ a) : nI a - nI b = nI (a - b) := by
  obtain ⟨c, rfl⟩ : ∃ c, a = c + b := ⟨a - b, by omega⟩
  rw [← nI_add, Int32.add_sub_cancel, Nat.add_sub_cancel]
theorem pk_m1 (n : Nat) : nI (n + 1) + (-1) = nI n := by
  rw [← nI_1, Int32.add_assoc, show (1 : Int32) + (-1) = 0 from rfl, Int32.add_zero]
theorem pk_mul (a b : Nat) : nI a * nI b = nI (a * b) := (Int32.ofNat_mul a b).symm
theorem pk_div {a d : Nat} (ha : a < 2 ^ 31) (h0 : 0 < d) (hd : d < 2 ^ 31) : nI a / nI d = nI (a / d) := by
  apply Int32.toInt_inj.mp
  rw [lg_idiv_nonneg (by rw [nI_toInt ha]; omega) (by rw [nI_toInt hd]; omega), nI_toInt ha, nI_toInt hd, nI_toInt (Nat.lt_of_le_of_lt (Nat.div_le_self a d) ha)]
  first | rfl | exact (Int.natCast_ediv _ _).symm
theorem pk_rem {a d : Nat} (ha : a < 2 ^ 31) (h0 : 0 < d) (hd : d < 2 ^ 31) : nI a - nI a / nI d * nI d = nI (a % d) := by
  rw [pk_div ha h0 hd, pk_mul, pk_sub (Nat.div_mul_le_self a d)]
  exact congrArg nI (by have := Nat.div_add_mod' a d; omega)
theorem pk_ix (x : Int32) {n : Nat} (hn : n < 2 ^ 31) : x < 0 ∨ nI n ≤ x ∨ ∃ j : Nat, j < n ∧ x = nI j := by
  by_cases h : x < 0
  · exact Or.inl h
  · obtain ⟨j, hj, rfl⟩ := nI_of h
    by_cases h2 : j < n
    · exact Or.inr (Or.inr ⟨j, h2, rfl⟩)
    · exact Or.inr (Or.inl (nI_le (by omega) hj))
theorem pk_le {x y : Int32} {A B : Prop} (a b : Nat) (f : a ≤ b → A) (g : b < a → B) (hx : x = nI a := by rfl) (hy : y = nI b := by rfl) (ha : a < 2 ^ 31 := by omega) (hb : b < 2 ^ 31 := by omega) : (x ≤ y → A) ∧ (¬ x ≤ y → B) := by
  subst hx hy
  rw [nI_leI ha hb]
  exact ⟨f, fun z => g (by omega)⟩
theorem pk_lt {x y : Int32} {A B : Prop} (a b : Nat) (f : a < b → A) (g : b ≤ a → B) (hx : x = nI a := by rfl) (hy : y = nI b := by rfl) (ha : a < 2 ^ 31 := by omega) (hb : b < 2 ^ 31 := by omega) : (x < y → A) ∧ (¬ x < y → B) := by
  subst hx hy
  rw [nI_ltI ha hb]
  exact ⟨f, fun z => g (by omega)⟩
theorem pk_eq {x y : Int32} {A B : Prop} (a b : Nat) (f : a = b → A) (g : a ≠ b → B) (hx : x = nI a := by rfl) (hy : y = nI b := by rfl) (ha : a < 2 ^ 31 := by omega) (hb : b < 2 ^ 31 := by omega) : (x = y → A) ∧ (¬ x = y → B) := by
  subst hx hy
  rw [nI_eq ha hb]
  exact ⟨f, g⟩
theorem pk_in {x : Int32} (n N : Nat) (h : n < N) (hx : x = nI n := by rfl) (hN : N < 2 ^ 31 := by omega) : vp_in x N := by
  subst hx
  exact vp_in_nI h hN
theorem pk_cl {x : Int32} (n : Nat) (hx : x = nI n := by rfl) (h : n < 2 ^ 31 := by omega) : x.toNatClampNeg = n := by
  subst hx
  exact nI_clamp h
theorem pk_tn {n : Nat} (h : n < 2 ^ 32) : (nI n).toBitVec.toNat = n := Nat.mod_eq_of_lt h
theorem pk_and (x : Int32) {m : Int32} (k : Nat) (hm : m.toBitVec.toNat = 2 ^ k - 1) : x &&& m = nI (x.toBitVec.toNat % 2 ^ k) := by
  apply Int32.toBitVec_inj.mp
  apply BitVec.eq_of_toNat_eq
  rw [Int32.toBitVec_and, BitVec.toNat_and, hm, Nat.and_two_pow_sub_one_eq_mod]
  show _ = (BitVec.ofNat 32 _).toNat
  rw [BitVec.toNat_ofNat]
  exact (Nat.mod_eq_of_lt (Nat.lt_of_le_of_lt (Nat.mod_le _ _) x.toBitVec.isLt)).symm
theorem pk_andN {n : Nat} (h : n < 2 ^ 32) {m : Int32} (k : Nat) (hm : m.toBitVec.toNat = 2 ^ k - 1) : nI n &&& m = nI (n % 2 ^ k) := by
  rw [pk_and _ k hm, pk_tn h]
theorem pk_andE (x : Int32) {m : Int32} (k : Nat) (hm : m.toBitVec.toNat = 2 ^ k - 1) : ∃ j : Nat, j < 2 ^ k ∧ x &&& m = nI j := ⟨_, Nat.mod_lt _ (Nat.two_pow_pos k), pk_and x k hm⟩
/-! pure: one column of the edit-distance table -/
def nd_nx (p : Nat → Nat) (c top : Nat) (f : Nat → Nat) : Nat → Nat
  | 0 => top
  | i + 1 => min (if p i = c then f i else f i + 1) (min (f (i + 1)) (nd_nx p c top f i) + 1)
def nd_ed (p q : Nat → Nat) : Nat → Nat → Nat
  | 0 => fun i => i
  | j + 1 => nd_nx p (q j) (j + 1) (nd_ed p q j)
def nd_pd (p q : Nat → Nat) : Nat → Nat → Nat
  | 0 => fun i => i
  | j + 1 => nd_nx p (q j) 0 (nd_pd p q j)
theorem nd_ed0 (p q : Nat → Nat) (i : Nat) : nd_ed p q 0 i = i := rfl
theorem nd_edt (p q : Nat → Nat) (j : Nat) : nd_ed p q j 0 = j := by cases j <;> rfl
theorem nd_edS (p q : Nat → Nat) (j i : Nat) : nd_ed p q (j + 1) (i + 1) = min (if p i = q j then nd_ed p q j i else nd_ed p q j i + 1) (min (nd_ed p q j (i + 1)) (nd_ed p q (j + 1) i) + 1) := rfl
theorem nd_pd0 (p q : Nat → Nat) (i : Nat) : nd_pd p q 0 i = i := rfl
theorem nd_pdt (p q : Nat → Nat) (j : Nat) : nd_pd p q j 0 = 0 := by cases j <;> rfl
theorem nd_pdS (p q : Nat → Nat) (j i : Nat) : nd_pd p q (j + 1) (i + 1) = min (if p i = q j then nd_pd p q j i else nd_pd p q j i + 1) (min (nd_pd p q j (i + 1)) (nd_pd p q (j + 1) i) + 1) := rfl
theorem nd_ed_le (p q : Nat → Nat) : ∀ j i, nd_ed p q j i ≤ i + j := by
  intro j
  induction j with
  | zero => intro i; exact Nat.le_refl i
  | succ j ih =>
    intro i
    cases i with
    | zero => rw [nd_edt]; omega
    | succ i => rw [nd_edS]; have := ih (i + 1); omega
theorem nd_pd_le (p q : Nat → Nat) : ∀ j i, nd_pd p q j i ≤ i := by
  intro j
  cases j with
  | zero => intro i; exact Nat.le_refl i
  | succ j =>
    intro i
    induction i with
    | zero => rw [nd_pdt]; omega
    | succ i ih => rw [nd_pdS]; omega
theorem nd_ed_s (p q : Nat → Nat) (k i : Nat) : nd_ed p q k (i + 1) ≤ nd_ed p q k i + 1 := by
  cases k with
  | zero => rw [nd_ed0, nd_ed0]; omega
  | succ k => rw [nd_edS]; omega
theorem nd_pd_lo (p q : Nat → Nat) (f : Nat) : ∀ k i, nd_pd p q (f + k) i ≤ nd_ed p (fun t => q (f + t)) k i := by
  intro k
  induction k with
  | zero => intro i; exact nd_pd_le p q f i
  | succ k ih =>
    intro i
    induction i with
    | zero => rw [nd_pdt]; omega
    | succ i ihi =>
      have e : f + (k + 1) = (f + k) + 1 := rfl
      rw [e] at ihi ⊢
      rw [nd_pdS, nd_edS]
      have h1 := ih i
      have h2 := ih (i + 1)
      by_cases z : p i = q (f + k)
      · rw [if_pos z, if_pos z]; omega
      · rw [if_neg z, if_neg z]; omega
theorem nd_pd_hi (p q : Nat → Nat) : ∀ j i, ∃ f k, f + k = j ∧ nd_ed p (fun t => q (f + t)) k i ≤ nd_pd p q j i := by
  intro j
  induction j with
  | zero => intro i; exact ⟨0, 0, rfl, Nat.le_refl i⟩
  | succ j ih =>
    intro i
    induction i with
    | zero => exact ⟨j + 1, 0, rfl, Nat.zero_le _⟩
    | succ i ihi =>
      obtain ⟨f1, k1, e1, h1⟩ := ih i
      obtain ⟨f2, k2, e2, h2⟩ := ih (i + 1)
      obtain ⟨f3, k3, e3, h3⟩ := ihi
      by_cases zA : nd_pd p q (j + 1) (i + 1) = (if p i = q j then nd_pd p q j i else nd_pd p q j i + 1)
      · refine ⟨f1, k1 + 1, by omega, ?_⟩
        rw [nd_edS, zA]
        show min (if p i = q (f1 + k1) then _ else _) _ ≤ _
        rw [e1]
        by_cases z : p i = q j
        · rw [if_pos z, if_pos z]; omega
        · rw [if_neg z, if_neg z]; omega
      · by_cases zB : nd_pd p q (j + 1) (i + 1) = nd_pd p q j (i + 1) + 1
        · refine ⟨f2, k2 + 1, by omega, ?_⟩
          rw [nd_edS, zB]
          omega
        · refine ⟨f3, k3, e3, ?_⟩
          have h4 := nd_ed_s p (fun t => q (f3 + t)) k3 i
          rw [nd_pdS] at zA zB ⊢
          omega
/-! the least distance of a part, and where it ends first -/
def nd_bl (p q : Nat → Nat) (m : Nat) : Nat → Nat
  | 0 => m
  | n + 1 => min (nd_bl p q m n) (nd_pd p q (n + 1) m)
theorem nd_bl_le (p q : Nat → Nat) (m : Nat) : ∀ n f, f ≤ n → nd_bl p q m n ≤ nd_pd p q f m := by
  intro n
  induction n with
  | zero => intro f hf; obtain rfl : f = 0 := by omega
            exact Nat.le_refl m
  | succ n ih =>
    intro f hf
    show min (nd_bl p q m n) (nd_pd p q (n + 1) m) ≤ _
    rcases Nat.lt_or_ge f (n + 1) with z | z
    · have := ih f (by omega); omega
    · obtain rfl : f = n + 1 := by omega
      omega
theorem nd_bl_m (p q : Nat → Nat) (m : Nat) : ∀ n, nd_bl p q m n ≤ m := by
  intro n
  induction n with
  | zero => exact Nat.le_refl m
  | succ n ih => show min (nd_bl p q m n) (nd_pd p q (n + 1) m) ≤ _; omega
def nd_Fe (p q : Nat → Nat) (m n l e : Nat) : Prop := e ≤ n ∧ nd_pd p q e m ≤ l ∧ ∀ f, f < e → l < nd_pd p q f m
theorem nd_Fe_u {p q : Nat → Nat} {m n l e e' : Nat} (h : nd_Fe p q m n l e) (h' : nd_Fe p q m n l e') : e = e' := by
  obtain ⟨_, a2, a3⟩ := h
  obtain ⟨_, b2, b3⟩ := h'
  rcases Nat.lt_trichotomy e e' with z | z | z
  · have := b3 e z; omega
  · exact z
  · have := a3 e' z; omega
theorem nd_Fe_s {p q : Nat → Nat} {m n e : Nat} (h : nd_Fe p q m n (nd_bl p q m n) e) : nd_Fe p q m (n + 1) (nd_bl p q m (n + 1)) (if nd_pd p q (n + 1) m < nd_bl p q m n then n + 1 else e) := by
  obtain ⟨a1, a2, a3⟩ := h
  have eb : nd_bl p q m (n + 1) = min (nd_bl p q m n) (nd_pd p q (n + 1) m) := rfl
  by_cases z : nd_pd p q (n + 1) m < nd_bl p q m n
  · rw [if_pos z]
    refine ⟨Nat.le_refl _, by omega, fun f hf => ?_⟩
    have := nd_bl_le p q m n f (by omega)
    omega
  · rw [if_neg z]
    have e2 : nd_bl p q m (n + 1) = nd_bl p q m n := by omega
    rw [e2]
    exact ⟨by omega, a2, a3⟩
theorem nd_Fe_0 (p q : Nat → Nat) (m : Nat) : nd_Fe p q m 0 (nd_bl p q m 0) 0 := ⟨Nat.le_refl _, Nat.le_refl m, fun f hf => absurd hf (Nat.not_lt_zero f)⟩
theorem nd_Fe_ex (p q : Nat → Nat) (m : Nat) : ∀ n, ∃ e, nd_Fe p q m n (nd_bl p q m n) e := by
  intro n
  induction n with
  | zero => exact ⟨0, nd_Fe_0 p q m⟩
  | succ n ih => obtain ⟨e, h⟩ := ih
                 exact ⟨_, nd_Fe_s h⟩
/-! the reference's search: all parts that end at t, in order of where they begin -/
def nd_e (p q : Nat → Nat) (m t f : Nat) : Nat := nd_ed p (fun x => q (f + x)) (t - f) m
def nd_In (p q : Nat → Nat) (m t l0 e0 fr l e : Nat) : Prop := (∀ f, f < fr → l ≤ nd_e p q m t f) ∧ ((l = l0 ∧ e = e0) ∨ (l < l0 ∧ e = t ∧ ∃ f, f < fr ∧ l = nd_e p q m t f))
theorem nd_In_0 (p q : Nat → Nat) (m t l0 e0 : Nat) : nd_In p q m t l0 e0 0 l0 e0 := ⟨fun f hf => absurd hf (Nat.not_lt_zero f), Or.inl ⟨rfl, rfl⟩⟩
theorem nd_In_k {p q : Nat → Nat} {m t l0 e0 fr l e : Nat} (h : nd_In p q m t l0 e0 fr l e) (z : l ≤ nd_e p q m t fr) : nd_In p q m t l0 e0 (fr + 1) l e := by
  obtain ⟨h1, h2⟩ := h
  refine ⟨lt_s h1 z, ?_⟩
  rcases h2 with h2 | ⟨a, b, f, hf, c⟩
  · exact Or.inl h2
  · exact Or.inr ⟨a, b, f, by omega, c⟩
theorem nd_In_n {p q : Nat → Nat} {m t l0 e0 fr l e : Nat} (h : nd_In p q m t l0 e0 fr l e) (z : nd_e p q m t fr < l) : nd_In p q m t l0 e0 (fr + 1) (nd_e p q m t fr) t := by
  obtain ⟨h1, h2⟩ := h
  refine ⟨lt_s (fun f hf => Nat.le_trans (Nat.le_of_lt z) (h1 f hf)) (Nat.le_refl _), Or.inr ⟨?_, rfl, fr, by omega, rfl⟩⟩
  rcases h2 with ⟨a, _⟩ | ⟨a, _⟩ <;> omega
theorem nd_In_x {p q : Nat → Nat} {m t l0 e0 l e : Nat} (h : nd_In p q m t l0 e0 (t + 1) l e) : l = min l0 (nd_pd p q t m) ∧ e = if nd_pd p q t m < l0 then t else e0 := by
  obtain ⟨h1, h2⟩ := h
  obtain ⟨f, k, ef, hf⟩ := nd_pd_hi p q t m
  have a1 := h1 f (by omega)
  have a2 : nd_e p q m t f ≤ nd_pd p q t m := by
    unfold nd_e
    rw [show t - f = k by omega]
    exact hf
  rcases h2 with ⟨b1, b2⟩ | ⟨b1, b2, g, hg, b3⟩
  · have z : ¬ nd_pd p q t m < l0 := by omega
    rw [if_neg z]
    exact ⟨by omega, b2⟩
  · have c := nd_pd_lo p q g (t - g) m
    rw [show g + (t - g) = t by omega] at c
    have c2 : nd_pd p q t m ≤ nd_e p q m t g := c
    have z : nd_pd p q t m < l0 := by omega
    rw [if_pos z]
    exact ⟨by omega, b2⟩
def nd_Out (p q : Nat → Nat) (m t l e : Nat) : Prop := (t = 0 ∧ l = 100 ∧ e = 0) ∨ ∃ s, t = s + 1 ∧ l = nd_bl p q m s ∧ nd_Fe p q m s (nd_bl p q m s) e
theorem nd_Out_0 (p q : Nat → Nat) (m : Nat) : nd_Out p q m 0 100 0 := Or.inl ⟨rfl, rfl, rfl⟩
theorem nd_Out_l {p q : Nat → Nat} {m t l e : Nat} (h : nd_Out p q m t l e) (hm : m ≤ 16) : l ≤ 100 ∧ e ≤ t := by
  rcases h with ⟨_, a, b⟩ | ⟨s, hs, a, b⟩
  · omega
  · have := nd_bl_m p q m s
    have := b.1
    omega
theorem nd_Out_s {p q : Nat → Nat} {m t l0 e0 l e : Nat} (h : nd_Out p q m t l0 e0) (hm : m ≤ 16) (hi : nd_In p q m t l0 e0 (t + 1) l e) : nd_Out p q m (t + 1) l e := by
  obtain ⟨h1, h2⟩ := nd_In_x hi
  rcases h with ⟨rfl, rfl, rfl⟩ | ⟨s, rfl, rfl, b⟩
  · refine Or.inr ⟨0, rfl, ?_, ?_⟩
    · rw [h1, nd_pd0]
      show min 100 m = m
      omega
    · have : e = 0 := by rw [h2]; split <;> rfl
      rw [this]
      exact nd_Fe_0 p q m
  · refine Or.inr ⟨s + 1, rfl, h1, ?_⟩
    rw [h2]
    exact nd_Fe_s b
/-! pairs of letters -/
def nd_cn (T : Nat → Nat) (x : Nat) : Nat → Nat
  | 0 => 0
  | k + 1 => nd_cn T x k + if T k * 4 + T (k + 1) = x then 1 else 0
theorem nd_cn_le (T : Nat → Nat) (x : Nat) : ∀ k, nd_cn T x k ≤ k := by
  intro k
  induction k with
  | zero => exact Nat.le_refl 0
  | succ k ih =>
    show nd_cn T x k + (if T k * 4 + T (k + 1) = x then 1 else 0) ≤ _
    split <;> omega
theorem nd_cn_t {T : Nat → Nat} {x k : Nat} (h : T k * 4 + T (k + 1) = x) : nd_cn T x (k + 1) = nd_cn T x k + 1 := by
  show nd_cn T x k + (if T k * 4 + T (k + 1) = x then 1 else 0) = _
  rw [if_pos h]
theorem nd_cn_f {T : Nat → Nat} {x k : Nat} (h : ¬ T k * 4 + T (k + 1) = x) : nd_cn T x (k + 1) = nd_cn T x k := by
  show nd_cn T x k + (if T k * 4 + T (k + 1) = x then 1 else 0) = _
  rw [if_neg h]
  rfl
def nd_sm (f g : Nat → Nat) : Nat → Nat
  | 0 => 0
  | k + 1 => nd_sm f g k + min (f k) (g k)
end
section
/-! the component's own methods, each with a general post -/
theorem xw_lesser {post : Int32 → Prop} {x y : Int32} (a b : Nat) (hx : x = nI a) (hy : y = nI b) (ha : a < 2 ^ 31) (hb : b < 2 ^ 31) (h : post (nI (min a b))) : wpX_lesser post x y := by
  subst hx hy
  refine pk_le b a (fun z => ?_) (fun z => ?_) rfl rfl hb ha
  · rwa [Nat.min_eq_right z] at h
  · rwa [Nat.min_eq_left (Nat.le_of_lt z)] at h
theorem xw_at (r i : Nat) : nI r * 16 + nI i = nI (16 * r + i) := by
  show nI r * nI 16 + nI i = _
  rw [pk_mul, nI_add, Nat.mul_comm]
theorem xw_letter {post : Int32 → Prop} {aL aN aC : Nat → Int32} {T : Nat → Nat} (hL : ∀ i, i < 144 → aL i = nI (T i)) {x y : Int32} (r i : Nat) (hr : r < 9) (hi : i < 16) (hx : x = nI r) (hy : y = nI i) (h : post (nI (T (16 * r + i)))) : wpX_letterAt post (aL, aN, aC) x y := by
  subst hx hy
  unfold wpX_letterAt
  dsimp only
  rw [xw_at, nI_clamp (by omega), hL _ (by omega)]
  exact ⟨vp_in_nI (by omega) (by omega), h⟩
theorem xw_start_loop {post : SX → Prop} {aL aN : Nat → Int32} (n : Nat) (hn : n ≤ 16) (hp : ∀ aC', (∀ j, j ≤ n → aC' j = nI j) → post (aL, aN, aC')) : ∀ d i aC, i + d = n + 1 → (∀ j, j < i → aC j = nI j) → wX_startColumn_9 post (nI n) (d + 1) (nI i) aL aN aC := by
  intro d
  induction d with
  | zero =>
    intro i aC hi hc
    exact pk_lt n i (fun _ => hp aC (fun j hj => hc j (by omega))) (fun z => absurd z (by omega))
  | succ d ih =>
    intro i aC hi hc
    refine pk_lt n i (fun z => absurd z (by omega)) (fun z => ⟨vp_in_nI (by omega) (by omega), ?_⟩)
    intro c ec y ey
    rw [nI_clamp (by omega)] at ec
    subst ey
    rw [nI_1]
    refine ih (i + 1) c (by omega) (fun j hj => ?_)
    rw [ec]
    by_cases zj : j = i
    · subst zj; exact pk_us
    · rw [pk_un zj]; exact hc j (by omega)
theorem xw_start {post : SX → Prop} {aL aN aC : Nat → Int32} {x : Int32} (r n : Nat) (hr : r < 9) (hx : x = nI r) (hN : aN r = nI n) (hn : n ≤ 16) (hp : ∀ aC', (∀ j, j ≤ n → aC' j = nI j) → post (aL, aN, aC')) : wpX_startColumn post (aL, aN, aC) x := by
  subst hx
  refine ⟨vp_in_nI (by omega) (by omega), ?_⟩
  intro y ey
  rw [nI_clamp (by omega), hN] at ey
  subst ey
  exact ⟨n + 1 + 1, xw_start_loop n hn hp (n + 1) 0 aC (by omega) (fun j hj => absurd hj (Nat.not_lt_zero j))⟩
theorem xw_adv_loop {post : SX → Prop} {aL aN : Nat → Int32} {T : Nat → Nat} (hL : ∀ i, i < 144 → aL i = nI (T i)) (hT : ∀ i, T i < 4) (r n c : Nat) (hr : r < 9) (hn : n ≤ 16) (hc : c < 4) (f g : Nat → Nat) (hf : ∀ i, i ≤ n → f i ≤ 1000) (hg : ∀ i, i ≤ n → g i ≤ 1000)
    (hs : ∀ i, i < n → g (i + 1) = min (if T (16 * r + i) = c then f i else f i + 1) (min (f (i + 1)) (g i) + 1))
    (hp : ∀ aC', (∀ j, j ≤ n → aC' j = nI (g j)) → post (aL, aN, aC')) : ∀ d i aC, i + d = n → (∀ j, j ≤ i → aC j = nI (g j)) → (∀ j, i < j → j ≤ n → aC j = nI (f j)) → wX_advanceColumn_26 post (nI r) (nI c) (nI n) (d + 1) (nI (f i)) (nI (i + 1)) aL aN aC := by
  intro d
  induction d with
  | zero =>
    intro i aC hi h1 h2
    exact pk_lt n (i + 1) (fun _ => hp aC (fun j hj => h1 j (by omega))) (fun z => absurd z (by omega))
  | succ d ih =>
    intro i aC hi h1 h2
    have bf := hf i (by omega)
    have bf1 := hf (i + 1) (by omega)
    have bg := hg i (by omega)
    have key : ∀ z0 : Nat, z0 = (if T (16 * r + i) = c then f i else f i + 1) → wX_advanceColumn_64 post (wX_advanceColumn_26 post (nI r) (nI c) (nI n) (d + 1)) (nI r) (nI c) (nI n) (nI (i + 1)) (nI (f (i + 1))) (nI z0) aL aN aC := by
      intro z0 ez
      have bz : z0 ≤ 1001 := by
        rw [ez]
        split <;> omega
      unfold wX_advanceColumn_64
      rw [nI_pred i, nI_clamp (n := i) (by omega), nI_clamp (n := i + 1) (by omega), h1 i (Nat.le_refl _)]
      refine ⟨vp_in_nI (by omega) (by omega), xw_lesser (f (i + 1)) (g i) rfl rfl (by omega) (by omega) ?_⟩
      intro x9 e9
      rw [nI_1] at e9
      refine xw_lesser z0 (min (f (i + 1)) (g i) + 1) rfl e9 (by omega) (by omega) ?_
      refine ⟨vp_in_nI (by omega) (by omega), ?_⟩
      intro a ea y ey
      subst ey
      rw [nI_1]
      have eg : min z0 (min (f (i + 1)) (g i) + 1) = g (i + 1) := by rw [hs i (by omega), ez]
      rw [eg] at ea
      refine ih (i + 1) a (by omega) (fun j hj => ?_) (fun j hj hj2 => ?_)
      · rw [ea]
        by_cases zj : j = i + 1
        · subst zj; exact pk_us
        · rw [pk_un zj]; exact h1 j (by omega)
      · rw [ea, pk_un (by omega)]
        exact h2 j (by omega) hj2
    refine pk_lt n (i + 1) (fun z => absurd z (by omega)) (fun z => ⟨vp_in_nI (by omega) (by omega), ?_⟩)
    intro x7 e7
    rw [nI_clamp (by omega), h2 (i + 1) (by omega) (by omega)] at e7
    subst e7
    refine xw_letter hL r i hr (by omega) rfl (nI_pred i) ?_
    have bT := hT (16 * r + i)
    refine pk_eq (T (16 * r + i)) c (fun z => ?_) (fun z => ?_)
    · exact key (f i) (by rw [if_pos z])
    · rw [nI_1]
      exact key (f i + 1) (by rw [if_neg z])
theorem xw_adv {post : SX → Prop} {aL aN aC : Nat → Int32} {T : Nat → Nat} {x y t : Int32} (hL : ∀ i, i < 144 → aL i = nI (T i)) (hT : ∀ i, T i < 4) (r n c : Nat) (hx : x = nI r) (hy : y = nI c) (hr : r < 9) (hN : aN r = nI n) (hn : n ≤ 16) (hc : c < 4) (f g : Nat → Nat) (ht : t = nI (g 0)) (hf : ∀ i, i ≤ n → f i ≤ 1000) (hg : ∀ i, i ≤ n → g i ≤ 1000)
    (hs : ∀ i, i < n → g (i + 1) = min (if T (16 * r + i) = c then f i else f i + 1) (min (f (i + 1)) (g i) + 1)) (hC : ∀ j, j ≤ n → aC j = nI (f j))
    (hp : ∀ aC', (∀ j, j ≤ n → aC' j = nI (g j)) → post (aL, aN, aC')) : wpX_advanceColumn post (aL, aN, aC) x y t := by
  subst hx hy ht
  refine ⟨vp_in_nI (by omega) (by omega), ?_⟩
  intro x4 e4 x5 e5 a ea
  rw [nI_clamp (by omega), hN] at e4
  rw [hC 0 (by omega)] at e5
  subst e4 e5
  refine ⟨n + 1, xw_adv_loop hL hT r n c hr hn hc f g hf hg hs hp n 0 a (by omega) (fun j hj => ?_) (fun j hj hj2 => ?_)⟩
  · obtain rfl : j = 0 := by omega
    rw [ea]
    exact pk_us
  · rw [ea, pk_un (by omega)]
    exact hC j hj2
theorem xw_row_loop {post : Int32 → SX → Prop} {aL aN : Nat → Int32} {T : Nat → Nat} (hL : ∀ i, i < 144 → aL i = nI (T i)) (hT : ∀ i, T i < 4) (a b na nb : Nat) (ha : a < 9) (hb : b < 9) (hA : aN a = nI na) (hna : na ≤ 16) (hnb : nb ≤ 16)
    (hp : ∀ aC', post (nI (nd_ed (fun i => T (16 * a + i)) (fun i => T (16 * b + i)) nb na)) (aL, aN, aC')) : ∀ d j aC, j + d = nb → (∀ i, i ≤ na → aC i = nI (nd_ed (fun i => T (16 * a + i)) (fun i => T (16 * b + i)) j i)) → wX_rowDistance_15 post (nI a) (nI b) (nI nb) (d + 1) (nI (j + 1)) aL aN aC := by
  intro d
  induction d with
  | zero =>
    intro j aC hj hC
    obtain rfl : j = nb := by omega
    refine pk_lt j (j + 1) (fun _ => ?_) (fun z => absurd z (by omega))
    rw [nI_clamp (by omega), hA, nI_clamp (by omega), hC na (Nat.le_refl _)]
    exact ⟨vp_in_nI (by omega) (by omega), vp_in_nI (by omega) (by omega), hp aC⟩
  | succ d ih =>
    intro j aC hj hC
    refine pk_lt nb (j + 1) (fun z => absurd z (by omega)) (fun _ => ?_)
    refine xw_letter hL b j hb (by omega) rfl (nI_pred j) ?_
    refine xw_adv hL hT a na (T (16 * b + j)) rfl rfl ha hA hna (hT _) (nd_ed (fun i => T (16 * a + i)) (fun i => T (16 * b + i)) j) (nd_ed (fun i => T (16 * a + i)) (fun i => T (16 * b + i)) (j + 1)) rfl (fun i hi => ?_) (fun i hi => ?_) (fun i hi => rfl) hC (fun aC' h' => ?_)
    · exact Nat.le_trans (nd_ed_le _ _ _ _) (by omega)
    · exact Nat.le_trans (nd_ed_le _ _ _ _) (by omega)
    · intro y ey
      subst ey
      rw [nI_1]
      exact ih (j + 1) aC' (by omega) h'
theorem xw_row {post : Int32 → SX → Prop} {aL aN aC : Nat → Int32} {T : Nat → Nat} {x y : Int32} (hL : ∀ i, i < 144 → aL i = nI (T i)) (hT : ∀ i, T i < 4) (a b na nb : Nat) (hx : x = nI a) (hy : y = nI b) (ha : a < 9) (hb : b < 9) (hA : aN a = nI na) (hB : aN b = nI nb) (hna : na ≤ 16) (hnb : nb ≤ 16)
    (hp : ∀ aC', post (nI (nd_ed (fun i => T (16 * a + i)) (fun i => T (16 * b + i)) nb na)) (aL, aN, aC')) : wpX_rowDistance post (aL, aN, aC) x y := by
  subst hx hy
  refine ⟨vp_in_nI (by omega) (by omega), ?_⟩
  intro z ez
  rw [nI_clamp (by omega), hB] at ez
  subst ez
  refine xw_start a na ha rfl hA hna (fun aC' h' => ?_)
  exact ⟨nb + 1, xw_row_loop hL hT a b na nb ha hb hA hna hnb hp nb 0 aC' (by omega) h'⟩
theorem xw_least_loop {post : Int32 → SX → Prop} {aL aN : Nat → Int32} {T : Nat → Nat} (hL : ∀ i, i < 144 → aL i = nI (T i)) (hT : ∀ i, T i < 4) (b m n : Nat) (hb : b < 9) (hA : aN 8 = nI m) (hm : m ≤ 16) (hn : n ≤ 16)
    (hp : ∀ aC', post (nI (nd_bl (fun i => T (16 * 8 + i)) (fun i => T (16 * b + i)) m n)) (aL, aN, aC')) : ∀ d j aC, j + d = n → (∀ i, i ≤ m → aC i = nI (nd_pd (fun i => T (16 * 8 + i)) (fun i => T (16 * b + i)) j i)) → wX_leastPartDistance_32 post (nI b) (nI n) (nI m) (d + 1) (nI (nd_bl (fun i => T (16 * 8 + i)) (fun i => T (16 * b + i)) m j)) (nI (j + 1)) aL aN aC := by
  intro d
  induction d with
  | zero =>
    intro j aC hj hC
    obtain rfl : j = n := by omega
    exact pk_lt j (j + 1) (fun _ => hp aC) (fun z => absurd z (by omega))
  | succ d ih =>
    intro j aC hj hC
    refine pk_lt n (j + 1) (fun z => absurd z (by omega)) (fun _ => ?_)
    refine xw_letter hL b j hb (by omega) rfl (nI_pred j) ?_
    refine xw_adv hL hT 8 m (T (16 * b + j)) rfl rfl (by omega) hA hm (hT _) (nd_pd (fun i => T (16 * 8 + i)) (fun i => T (16 * b + i)) j) (nd_pd (fun i => T (16 * 8 + i)) (fun i => T (16 * b + i)) (j + 1)) rfl (fun i hi => ?_) (fun i hi => ?_) (fun i hi => rfl) hC (fun aC' h' => ?_)
    · exact Nat.le_trans (nd_pd_le _ _ _ _) (by omega)
    · exact Nat.le_trans (nd_pd_le _ _ _ _) (by omega)
    · have b1 := nd_bl_m (fun i => T (16 * 8 + i)) (fun i => T (16 * b + i)) m j
      have b2 := nd_pd_le (fun i => T (16 * 8 + i)) (fun i => T (16 * b + i)) (j + 1) m
      dsimp only
      rw [nI_clamp (n := m) (by omega), h' m (Nat.le_refl _)]
      refine ⟨vp_in_nI (by omega) (by omega), xw_lesser _ _ rfl rfl (Nat.lt_of_le_of_lt b1 (by omega)) (Nat.lt_of_le_of_lt b2 (by omega)) ?_⟩
      intro y ey
      subst ey
      rw [nI_1]
      exact ih (j + 1) aC' (by omega) h'
theorem xw_least {post : Int32 → SX → Prop} {aL aN aC : Nat → Int32} {T : Nat → Nat} {x : Int32} (hL : ∀ i, i < 144 → aL i = nI (T i)) (hT : ∀ i, T i < 4) (b m n : Nat) (hx : x = nI b) (hb : b < 9) (hA : aN 8 = nI m) (hB : aN b = nI n) (hm : m ≤ 16) (hn : n ≤ 16)
    (hp : ∀ aC', post (nI (nd_bl (fun i => T (16 * 8 + i)) (fun i => T (16 * b + i)) m n)) (aL, aN, aC')) : wpX_leastPartDistance post (aL, aN, aC) x := by
  subst hx
  refine ⟨vp_in_nI (by omega) (by omega), ?_⟩
  intro z ez y ey
  rw [nI_clamp (by omega), hB] at ez
  rw [hA] at ey
  subst ez ey
  refine xw_start 8 m (by omega) rfl hA hm (fun aC' h' => ?_)
  refine ⟨vp_in_nI (by omega) (by omega), ?_⟩
  intro w ew
  rw [nI_clamp (by omega), h' m (Nat.le_refl _)] at ew
  subst ew
  exact ⟨n + 1, xw_least_loop hL hT b m n hb hA hm hn hp n 0 aC' (by omega) h'⟩
theorem xw_first_loop {post : Int32 → SX → Prop} {aL aN : Nat → Int32} {T : Nat → Nat} (hL : ∀ i, i < 144 → aL i = nI (T i)) (hT : ∀ i, T i < 4) (b m n l e : Nat) (hb : b < 9) (hA : aN 8 = nI m) (hm : m ≤ 16) (hn : n ≤ 16) (hl : l ≤ 1000)
    (he : nd_Fe (fun i => T (16 * 8 + i)) (fun i => T (16 * b + i)) m n l e)
    (hp : ∀ aC', post (nI e) (aL, aN, aC')) : ∀ d j aC, j + d = n → j ≤ e → (∀ i, i ≤ m → aC i = nI (nd_pd (fun i => T (16 * 8 + i)) (fun i => T (16 * b + i)) j i)) → wX_firstEndWithin_25 post (nI b) (nI l) (nI n) (nI m) (d + 1) (nI j) aL aN aC := by
  obtain ⟨e1, e2, e3⟩ := he
  intro d
  induction d with
  | zero =>
    intro j aC hj hje hC
    obtain rfl : j = e := by omega
    exact pk_le n j (fun _ => hp aC) (fun z => absurd z (by omega))
  | succ d ih =>
    intro j aC hj hje hC
    have bp := nd_pd_le (fun i => T (16 * 8 + i)) (fun i => T (16 * b + i)) j m
    refine pk_le n j (fun z => absurd z (by omega)) (fun _ => ?_)
    rw [nI_clamp (n := m) (by omega), hC m (Nat.le_refl _)]
    refine ⟨vp_in_nI (by omega) (by omega), ?_⟩
    refine pk_le (nd_pd (fun i => T (16 * 8 + i)) (fun i => T (16 * b + i)) j m) l (fun z => ?_) (fun z => ?_) rfl rfl (Nat.lt_of_le_of_lt bp (by omega)) (by omega)
    · rcases Nat.lt_or_ge j e with w | w
      · exact absurd (e3 j w) (Nat.not_lt.mpr z)
      · obtain rfl : j = e := by omega
        exact hp aC
    · have hlt : j < e := by
        rcases Nat.lt_or_ge j e with w | w
        · exact w
        · obtain rfl : j = e := by omega
          exact absurd z (Nat.not_lt.mpr e2)
      refine xw_letter hL b j hb (by omega) rfl rfl ?_
      refine xw_adv hL hT 8 m (T (16 * b + j)) rfl rfl (by omega) hA hm (hT _) (nd_pd (fun i => T (16 * 8 + i)) (fun i => T (16 * b + i)) j) (nd_pd (fun i => T (16 * 8 + i)) (fun i => T (16 * b + i)) (j + 1)) rfl (fun i hi => ?_) (fun i hi => ?_) (fun i hi => rfl) hC (fun aC' h' => ?_)
      · exact Nat.le_trans (nd_pd_le _ _ _ _) (by omega)
      · exact Nat.le_trans (nd_pd_le _ _ _ _) (by omega)
      · intro y ey
        subst ey
        rw [nI_1]
        exact ih (j + 1) aC' (by omega) (by omega) h'
theorem xw_first {post : Int32 → SX → Prop} {aL aN aC : Nat → Int32} {T : Nat → Nat} {x y : Int32} (hL : ∀ i, i < 144 → aL i = nI (T i)) (hT : ∀ i, T i < 4) (b m n l e : Nat) (hx : x = nI b) (hy : y = nI l) (hb : b < 9) (hA : aN 8 = nI m) (hB : aN b = nI n) (hm : m ≤ 16) (hn : n ≤ 16) (hl : l ≤ 1000)
    (he : nd_Fe (fun i => T (16 * 8 + i)) (fun i => T (16 * b + i)) m n l e)
    (hp : ∀ aC', post (nI e) (aL, aN, aC')) : wpX_firstEndWithin post (aL, aN, aC) x y := by
  subst hx hy
  refine ⟨vp_in_nI (by omega) (by omega), ?_⟩
  intro z ez y ey
  rw [nI_clamp (by omega), hB] at ez
  rw [hA] at ey
  subst ez ey
  refine xw_start 8 m (by omega) rfl hA hm (fun aC' h' => ?_)
  exact ⟨n + 1, xw_first_loop hL hT b m n l e hb hA hm hn hl he hp n 0 aC' (by omega) (by omega) h'⟩
end
section
/-! the reference's own methods, each with a general post -/
theorem yw_c99 {post : Int32 → Prop} {ft fl fr fe : Int32} {aLt aLn aQ aLf aRt aT : Nat → Int32} (a b : Nat) (ha : a < 2 ^ 31) (hb : b < 2 ^ 31) (h : post (nI (min a b))) : wY_cell_99 post (nI a) (nI b) ft fl fr fe aLt aLn aQ aLf aRt aT := by
  refine pk_le b a (fun z => ?_) (fun z => ?_) rfl rfl hb ha
  · rwa [Nat.min_eq_right z] at h
  · rwa [Nat.min_eq_left (Nat.le_of_lt z)] at h
theorem yw_c84 {post : Int32 → Prop} {ft fl fr fe : Int32} {aLt aLn aQ aLf aRt aT : Nat → Int32} {x y z0 z1 : Int32} (o i c : Nat) (hx : x = nI o) (hy : y = nI i) (hc : z1 + z0 = nI c) (ho : o ≤ 1000) (hi : i ≤ 1000) (hcb : c ≤ 1000) (h : post (nI (min c (min o i)))) : wY_cell_84 post x y z0 z1 ft fl fr fe aLt aLn aQ aLf aRt aT := by
  subst hx hy
  intro x5 e5
  rw [hc] at e5
  subst e5
  refine pk_le i o (fun z => ?_) (fun z => ?_)
  · refine yw_c99 c i (by omega) (by omega) ?_
    rwa [Nat.min_eq_right z] at h
  · refine yw_c99 c o (by omega) (by omega) ?_
    rwa [Nat.min_eq_left (Nat.le_of_lt z)] at h
theorem yw_ix (i j : Nat) : 17 * nI i + nI j = nI (17 * i + j) := by
  show nI 17 * nI i + nI j = _
  rw [pk_mul, nI_add]
theorem yw_cell {post : Int32 → Prop} {ft fl fr fe : Int32} {aLt aLn aQ aLf aRt aT : Nat → Int32} (p q : Nat → Nat) (hP : ∀ i, p i < 4) (hQ : ∀ i, q i < 4) (i j : Nat) (hi : i ≤ 16) (hj : j ≤ 16)
    (h : ∀ i' j', i = i' + 1 → j = j' + 1 → aT (17 * i' + (j' + 1)) = nI (nd_ed p q (j' + 1) i') ∧ aT (17 * (i' + 1) + j') = nI (nd_ed p q j' (i' + 1)) ∧ aT (17 * i' + j') = nI (nd_ed p q j' i') ∧ aLf i' = nI (p i') ∧ aRt j' = nI (q j'))
    (hp : post (nI (nd_ed p q j i))) : wpY_cell post (ft, fl, fr, fe, aLt, aLn, aQ, aLf, aRt, aT) (nI i) (nI j) := by
  cases i with
  | zero => refine br_t rfl ?_
            rwa [nd_edt] at hp
  | succ i =>
    cases j with
    | zero => exact br_f (nI_ne0 (by omega) (by omega)) (br_t rfl hp)
    | succ j =>
      obtain ⟨h1, h2, h3, h4, h5⟩ := h i j rfl rfl
      refine br_f (nI_ne0 (by omega) (by omega)) (br_f (nI_ne0 (by omega) (by omega)) ?_)
      have e1 : 17 * (nI (i + 1) - 1) + nI (j + 1) = nI (17 * i + (j + 1)) := by rw [nI_pred, yw_ix]
      have e2 : 17 * nI (i + 1) + nI (j + 1) - 1 = nI (17 * (i + 1) + j) := by rw [yw_ix]; exact nI_pred _
      have e3 : nI (17 * i + (j + 1)) - 1 = nI (17 * i + j) := nI_pred _
      rw [e1, e2, e3, nI_pred, nI_pred, nI_clamp (n := 17 * i + (j + 1)) (by omega), nI_clamp (n := 17 * (i + 1) + j) (by omega), nI_clamp (n := 17 * i + j) (by omega), nI_clamp (n := i) (by omega), nI_clamp (n := j) (by omega), h1, h2, h3, h4, h5, nI_1, nI_1]
      have b1 := nd_ed_le p q (j + 1) i
      have b2 := nd_ed_le p q j (i + 1)
      have b3 := nd_ed_le p q j i
      have bp := hP i
      have bq := hQ j
      refine ⟨vp_in_nI (by omega) (by omega), nm_e ⟨vp_in_nI (by omega) (by omega), nm_e ⟨vp_in_nI (by omega) (by omega), vp_in_nI (by omega) (by omega), vp_in_nI (by omega) (by omega), ?_⟩⟩⟩
      rw [nd_edS] at hp
      refine pk_eq (p i) (q j) (fun z => ?_) (fun z => ?_)
      · rw [if_pos z] at hp
        refine yw_c84 (nd_ed p q (j + 1) i + 1) (nd_ed p q j (i + 1) + 1) (nd_ed p q j i) rfl rfl (Int32.add_zero _) (by omega) (by omega) (by omega) ?_
        have e : min (nd_ed p q (j + 1) i + 1) (nd_ed p q j (i + 1) + 1) = min (nd_ed p q j (i + 1)) (nd_ed p q (j + 1) i) + 1 := by omega
        rwa [e]
      · rw [if_neg z] at hp
        refine yw_c84 (nd_ed p q (j + 1) i + 1) (nd_ed p q j (i + 1) + 1) (nd_ed p q j i + 1) rfl rfl (nI_1 _) (by omega) (by omega) (by omega) ?_
        have e : min (nd_ed p q (j + 1) i + 1) (nd_ed p q j (i + 1) + 1) = min (nd_ed p q j (i + 1)) (nd_ed p q (j + 1) i) + 1 := by omega
        rwa [e]
theorem yw_cmp_in {post : Int32 → SY → Prop} {J2 : Int32 → (Nat → Int32) → (Nat → Int32) → (Nat → Int32) → (Nat → Int32) → (Nat → Int32) → (Nat → Int32) → Prop} {ft fe : Int32} {aLt aLn aQ aLf aRt : Nat → Int32} (p q : Nat → Nat) (hP : ∀ i, p i < 4) (hQ : ∀ i, q i < 4) (m n i : Nat) (hm : m ≤ 16) (hn : n ≤ 16) (hi : i ≤ m) (hLf : ∀ x, x < m → aLf x = nI (p x)) (hRt : ∀ x, x < n → aRt x = nI (q x))
    (hJ : ∀ aT', (∀ x y, x < i + 1 → y ≤ n → aT' (17 * x + y) = nI (nd_ed p q y x)) → J2 (nI (i + 1)) aLt aLn aQ aLf aRt aT') : ∀ d j aT, j + d = n + 1 → (∀ x y, x < i → y ≤ n → aT (17 * x + y) = nI (nd_ed p q y x)) → (∀ y, y < j → aT (17 * i + y) = nI (nd_ed p q y i)) → wY_compared_12 post J2 (nI i) ft (nI m) (nI n) fe (d + 1) (nI j) aLt aLn aQ aLf aRt aT := by
  intro d
  induction d with
  | zero =>
    intro j aT hj h1 h2
    refine pk_lt n j (fun _ => ?_) (fun z => absurd z (by omega))
    refine nm_r (nI_1 i) (hJ aT (fun x y hx hy => ?_))
    rcases Nat.lt_or_ge x i with z | z
    · exact h1 x y z hy
    · obtain rfl : x = i := by omega
      exact h2 y (by omega)
  | succ d ih =>
    intro j aT hj h1 h2
    refine pk_lt n j (fun z => absurd z (by omega)) (fun _ => ?_)
    refine yw_cell p q hP hQ i j (by omega) (by omega) (fun x y ex ey => ?_) ?_
    · subst ex ey
      exact ⟨h1 x (y + 1) (by omega) (by omega), h2 y (by omega), h1 x y (by omega) (by omega), hLf x (by omega), hRt y (by omega)⟩
    · rw [yw_ix, nI_clamp (by omega)]
      refine ⟨vp_in_nI (by omega) (by omega), ?_⟩
      refine nm_e (nm_r (nI_1 j) (ih (j + 1) _ (by omega) (fun x y hx hy => ?_) (fun y hy => ?_)))
      · rw [pk_un (by omega)]
        exact h1 x y hx hy
      · by_cases zy : y = j
        · subst zy; exact pk_us
        · rw [pk_un (by omega)]
          exact h2 y (by omega)
theorem yw_cmp_out {post : Int32 → SY → Prop} {ft fe : Int32} {aLt aLn aQ aLf aRt : Nat → Int32} (p q : Nat → Nat) (hP : ∀ i, p i < 4) (hQ : ∀ i, q i < 4) (m n : Nat) (hm : m ≤ 16) (hn : n ≤ 16) (hLf : ∀ x, x < m → aLf x = nI (p x)) (hRt : ∀ x, x < n → aRt x = nI (q x))
    (hp : ∀ aT', post (nI (nd_ed p q n m)) (ft, nI m, nI n, fe, aLt, aLn, aQ, aLf, aRt, aT')) : ∀ d i aT, i + d = m + 1 → (∀ x y, x < i → y ≤ n → aT (17 * x + y) = nI (nd_ed p q y x)) → wY_compared_2 post ft (nI m) (nI n) fe (d + 1) (nI i) aLt aLn aQ aLf aRt aT := by
  intro d
  induction d with
  | zero =>
    intro i aT hi h1
    refine pk_lt m i (fun _ => ?_) (fun z => absurd z (by omega))
    rw [yw_ix, nI_clamp (by omega), h1 m n (by omega) (Nat.le_refl _)]
    exact ⟨vp_in_nI (by omega) (by omega), hp aT⟩
  | succ d ih =>
    intro i aT hi h1
    refine pk_lt m i (fun z => absurd z (by omega)) (fun _ => ⟨n + 1 + 1, ?_⟩)
    exact yw_cmp_in p q hP hQ m n i hm hn (by omega) hLf hRt (fun aT' h' => ih (i + 1) aT' (by omega) h') (n + 1) 0 aT (by omega) h1 (fun y hy => absurd hy (Nat.not_lt_zero y))
theorem yw_cmp {post : Int32 → SY → Prop} {ft fe : Int32} {aLt aLn aQ aLf aRt aT : Nat → Int32} (p q : Nat → Nat) (hP : ∀ i, p i < 4) (hQ : ∀ i, q i < 4) (m n : Nat) (hm : m ≤ 16) (hn : n ≤ 16) (hLf : ∀ x, x < m → aLf x = nI (p x)) (hRt : ∀ x, x < n → aRt x = nI (q x))
    (hp : ∀ aT', post (nI (nd_ed p q n m)) (ft, nI m, nI n, fe, aLt, aLn, aQ, aLf, aRt, aT')) : wpY_compared post (ft, nI m, nI n, fe, aLt, aLn, aQ, aLf, aRt, aT) :=
  ⟨m + 1 + 1, yw_cmp_out p q hP hQ m n hm hn hLf hRt hp (m + 1) 0 aT (by omega) (fun x y hx => absurd hx (Nat.not_lt_zero x))⟩
theorem yw_lq_loop {post : SY → Prop} {fl fr fe : Int32} {aLt aLn aQ aRt aT : Nat → Int32} (p : Nat → Nat) (m : Nat) (hm : m ≤ 8) (hQ : ∀ x, x < 8 → aQ x = nI (p x))
    (hp : ∀ aLf', (∀ x, x < m → aLf' x = nI (p x)) → post (nI m, fl, fr, fe, aLt, aLn, aQ, aLf', aRt, aT)) : ∀ d i aLf, i + d = m → (∀ x, x < i → aLf x = nI (p x)) → wY_layQuery_10 post (nI m) fl fr fe (d + 1) (nI i) aLt aLn aQ aLf aRt aT := by
  intro d
  induction d with
  | zero =>
    intro i aLf hi h1
    exact pk_le m i (fun _ => hp aLf (fun x hx => h1 x (by omega))) (fun z => absurd z (by omega))
  | succ d ih =>
    intro i aLf hi h1
    refine pk_le m i (fun z => absurd z (by omega)) (fun _ => ?_)
    rw [nI_clamp (by omega), hQ i (by omega)]
    refine ⟨vp_in_nI (by omega) (by omega), vp_in_nI (by omega) (by omega), nm_e (nm_r (nI_1 i) (ih (i + 1) _ (by omega) (fun x hx => ?_)))⟩
    by_cases zx : x = i
    · subst zx; exact pk_us
    · rw [pk_un zx]; exact h1 x (by omega)
theorem yw_lq {post : SY → Prop} {fl fr fe : Int32} {aLt aLn aQ aLf aRt aT : Nat → Int32} (p : Nat → Nat) (m : Nat) (hm : m ≤ 8) (hQ : ∀ x, x < 8 → aQ x = nI (p x))
    (hp : ∀ aLf', (∀ x, x < m → aLf' x = nI (p x)) → post (nI m, nI m, fr, fe, aLt, aLn, aQ, aLf', aRt, aT)) : wpY_layQuery post (nI m, fl, fr, fe, aLt, aLn, aQ, aLf, aRt, aT) :=
  ⟨m + 1, yw_lq_loop p m hm hQ hp m 0 aLf (by omega) (fun x hx => absurd hx (Nat.not_lt_zero x))⟩
theorem yw_ix3 (b f i : Nat) : 16 * nI b + nI f + nI i = nI (16 * b + (f + i)) := by
  show nI 16 * nI b + nI f + nI i = _
  rw [pk_mul, nI_add, nI_add, Nat.add_assoc]
theorem yw_lp_loop {post : SY → Prop} {ft fl fe : Int32} {aLt aLn aQ aLf aT : Nat → Int32} (T : Nat → Nat) (b f k : Nat) (hb : b < 8) (hk : f + k ≤ 16) (hL : ∀ x, x < 128 → aLt x = nI (T x))
    (hp : ∀ aRt', (∀ x, x < k → aRt' x = nI (T (16 * b + (f + x)))) → post (ft, fl, nI k, fe, aLt, aLn, aQ, aLf, aRt', aT)) : ∀ d i aRt, i + d = k → (∀ x, x < i → aRt x = nI (T (16 * b + (f + x)))) → wY_layPart_10 post (nI b) (nI f) ft fl (nI k) fe (d + 1) (nI i) aLt aLn aQ aLf aRt aT := by
  intro d
  induction d with
  | zero =>
    intro i aRt hi h1
    exact pk_le k i (fun _ => hp aRt (fun x hx => h1 x (by omega))) (fun z => absurd z (by omega))
  | succ d ih =>
    intro i aRt hi h1
    refine pk_le k i (fun z => absurd z (by omega)) (fun _ => ?_)
    rw [yw_ix3, nI_clamp (n := i) (by omega), nI_clamp (n := 16 * b + (f + i)) (by omega), hL (16 * b + (f + i)) (by omega)]
    refine ⟨vp_in_nI (by omega) (by omega), vp_in_nI (by omega) (by omega), nm_e (nm_r (nI_1 i) (ih (i + 1) _ (by omega) (fun x hx => ?_)))⟩
    by_cases zx : x = i
    · subst zx; exact pk_us
    · rw [pk_un zx]; exact h1 x (by omega)
theorem yw_lp {post : SY → Prop} {ft fl fr fe : Int32} {aLt aLn aQ aLf aRt aT : Nat → Int32} {x y z : Int32} (T : Nat → Nat) (b f t : Nat) (hx : x = nI b) (hy : y = nI f) (hz : z = nI t) (hb : b < 8) (hf : f ≤ t) (ht : t ≤ 16) (hL : ∀ x, x < 128 → aLt x = nI (T x))
    (hp : ∀ aRt', (∀ x, x < t - f → aRt' x = nI (T (16 * b + (f + x)))) → post (ft, fl, nI (t - f), fe, aLt, aLn, aQ, aLf, aRt', aT)) : wpY_layPart post (ft, fl, fr, fe, aLt, aLn, aQ, aLf, aRt, aT) x y z := by
  subst hx hy hz
  exact nm_r (pk_sub hf) ⟨t - f + 1, yw_lp_loop T b f (t - f) hb (by omega) hL hp (t - f) 0 aRt (by omega) (fun x hx => absurd hx (Nat.not_lt_zero x))⟩
theorem yw_se_in {post : Int32 → SY → Prop} {J14 : Int32 → Int32 → Int32 → Int32 → Int32 → Int32 → (Nat → Int32) → (Nat → Int32) → (Nat → Int32) → (Nat → Int32) → (Nat → Int32) → (Nat → Int32) → Prop} {ft : Int32} {aLt aLn aQ aLf : Nat → Int32} (T : Nat → Nat) (hT : ∀ i, T i < 4) (b m t l0 e0 : Nat) (hb : b < 8) (hm : m ≤ 16) (ht : t ≤ 16) (hl0 : l0 ≤ 100) (hL : ∀ x, x < 128 → aLt x = nI (T x)) (hLf : ∀ x, x < m → aLf x = nI (T (16 * 8 + x)))
    (hJ : ∀ l e fr aRt aT, nd_In (fun i => T (16 * 8 + i)) (fun i => T (16 * b + i)) m t l0 e0 (t + 1) l e → J14 (nI l) (nI (t + 1)) ft (nI m) fr (nI e) aLt aLn aQ aLf aRt aT) : ∀ d f l e fr aRt aT, f + d = t + 1 → nd_In (fun i => T (16 * 8 + i)) (fun i => T (16 * b + i)) m t l0 e0 f l e → wY_search_27 post J14 (nI b) (nI t) (d + 1) (nI l) (nI f) ft (nI m) fr (nI e) aLt aLn aQ aLf aRt aT := by
  intro d
  induction d with
  | zero =>
    intro f l e fr aRt aT hf hI
    obtain rfl : f = t + 1 := by omega
    refine pk_lt t (t + 1) (fun _ => ?_) (fun z => absurd z (by omega))
    exact nm_r (nI_1 t) (hJ l e fr aRt aT hI)
  | succ d ih =>
    intro f l e fr aRt aT hf hI
    refine pk_lt t f (fun z => absurd z (by omega)) (fun _ => ?_)
    refine yw_lp T b f t rfl rfl rfl hb (by omega) ht hL (fun aRt' h' => ?_)
    refine yw_cmp (fun i => T (16 * 8 + i)) (fun x => (fun i => T (16 * b + i)) (f + x)) (fun i => hT _) (fun i => hT _) m (t - f) hm (by omega) hLf h' (fun aT' => ?_)
    have bl : l ≤ 100 := by
      rcases hI.2 with ⟨w, _⟩ | ⟨w, _⟩ <;> omega
    have be : nd_e (fun i => T (16 * 8 + i)) (fun i => T (16 * b + i)) m t f ≤ 32 := Nat.le_trans (nd_ed_le _ _ _ _) (by omega)
    refine pk_le l (nd_e (fun i => T (16 * 8 + i)) (fun i => T (16 * b + i)) m t f) (fun z => ?_) (fun z => ?_)
    · exact nm_r (nI_1 f) (ih (f + 1) l e _ aRt' aT' (by omega) (nd_In_k hI z))
    · exact nm_r (nI_1 f) (ih (f + 1) (nd_e (fun i => T (16 * 8 + i)) (fun i => T (16 * b + i)) m t f) t _ aRt' aT' (by omega) (nd_In_n hI z))
theorem yw_se_out {post : Int32 → SY → Prop} {ft : Int32} {aLt aLn aQ aLf : Nat → Int32} (T : Nat → Nat) (hT : ∀ i, T i < 4) (b m n : Nat) (hb : b < 8) (hm : m ≤ 16) (hn : n ≤ 16) (hN : aLn b = nI n) (hL : ∀ x, x < 128 → aLt x = nI (T x)) (hLf : ∀ x, x < m → aLf x = nI (T (16 * 8 + x)))
    (hp : ∀ l e fr aRt aT, nd_Out (fun i => T (16 * 8 + i)) (fun i => T (16 * b + i)) m (n + 1) l e → post (nI l) (ft, nI m, fr, nI e, aLt, aLn, aQ, aLf, aRt, aT)) : ∀ d t l e fr aRt aT, t + d = n + 1 → nd_Out (fun i => T (16 * 8 + i)) (fun i => T (16 * b + i)) m t l e → wY_search_14 post (nI b) (d + 1) (nI l) (nI t) ft (nI m) fr (nI e) aLt aLn aQ aLf aRt aT := by
  intro d
  induction d with
  | zero =>
    intro t l e fr aRt aT ht hO
    obtain rfl : t = n + 1 := by omega
    refine ⟨vp_in_nI (by omega) (by omega), ?_⟩
    rw [nI_clamp (by omega), hN]
    exact pk_lt n (n + 1) (fun _ => hp l e fr aRt aT hO) (fun z => absurd z (by omega))
  | succ d ih =>
    intro t l e fr aRt aT ht hO
    have hb2 := nd_Out_l hO hm
    refine ⟨vp_in_nI (by omega) (by omega), ?_⟩
    rw [nI_clamp (by omega), hN]
    refine pk_lt n t (fun z => absurd z (by omega)) (fun _ => ⟨t + 1 + 1, ?_⟩)
    exact yw_se_in T hT b m t l e hb hm (by omega) hb2.1 hL hLf (fun l' e' fr' aRt' aT' hI => ih (t + 1) l' e' fr' aRt' aT' (by omega) (nd_Out_s hO hm hI)) (t + 1) 0 l e fr aRt aT (by omega) (nd_In_0 _ _ m t l e)
theorem yw_search {post : Int32 → SY → Prop} {ft fl fr fe : Int32} {aLt aLn aQ aLf aRt aT : Nat → Int32} {x : Int32} (T : Nat → Nat) (hT : ∀ i, T i < 4) (b m n : Nat) (hx : x = nI b) (hft : ft = nI m) (hb : b < 8) (hm : m ≤ 8) (hn : n ≤ 16) (hN : aLn b = nI n) (hL : ∀ x, x < 128 → aLt x = nI (T x)) (hQ : ∀ x, x < 8 → aQ x = nI (T (16 * 8 + x)))
    (hp : ∀ fl fr e aLf aRt aT, nd_Fe (fun i => T (16 * 8 + i)) (fun i => T (16 * b + i)) m n (nd_bl (fun i => T (16 * 8 + i)) (fun i => T (16 * b + i)) m n) e → post (nI (nd_bl (fun i => T (16 * 8 + i)) (fun i => T (16 * b + i)) m n)) (nI m, fl, fr, nI e, aLt, aLn, aQ, aLf, aRt, aT)) : wpY_search post (ft, fl, fr, fe, aLt, aLn, aQ, aLf, aRt, aT) x := by
  subst hx hft
  refine yw_lq (fl := fl) (fun i => T (16 * 8 + i)) m hm hQ (fun aLf' h' => ⟨n + 1 + 1, ?_⟩)
  refine yw_se_out T hT b m n hb (by omega) hn hN hL h' (fun l e fr' aRt' aT' hO => ?_) (n + 1) 0 100 0 fr aRt aT (by omega) (nd_Out_0 _ _ m)
  rcases hO with ⟨w, _⟩ | ⟨s, ws, wl, wf⟩
  · exact absurd w (by omega)
  · obtain rfl : s = n := by omega
    subst wl
    exact hp _ _ _ _ _ _ wf
end
section
/-! pairs of letters, both sides -/
theorem xw_cp_loop {post : Int32 → Prop} {aL aN aC : Nat → Int32} {T : Nat → Nat} (hL : ∀ i, i < 144 → aL i = nI (T i)) (hT : ∀ i, T i < 4) (b n x : Nat) (hb : b < 9) (hn : n ≤ 16) (hx : x < 16)
    (hp : post (nI (nd_cn (fun i => T (16 * b + i)) x (n - 1)))) : ∀ d k, k + d = n - 1 → wX_countPair_13 post (nI b) (nI x) (nI n) aL aN aC (d + 1) (nI (nd_cn (fun i => T (16 * b + i)) x k)) (nI (k + 1)) := by
  intro d
  induction d with
  | zero =>
    intro k hk
    obtain rfl : k = n - 1 := by omega
    exact pk_le n (n - 1 + 1) (fun _ => hp) (fun z => absurd z (by omega))
  | succ d ih =>
    intro k hk
    refine pk_le n (k + 1) (fun z => absurd z (by omega)) (fun _ => ?_)
    refine xw_letter hL b k hb (by omega) rfl (nI_pred k) ?_
    refine xw_letter hL b (k + 1) hb (by omega) rfl rfl ?_
    have e : nI (T (16 * b + k)) * 4 + nI (T (16 * b + (k + 1))) = nI (T (16 * b + k) * 4 + T (16 * b + (k + 1))) := by
      show _ * nI 4 + _ = _
      rw [pk_mul, nI_add]
    have b1 := hT (16 * b + k)
    have b2 := hT (16 * b + (k + 1))
    have hk1 := ih (k + 1) (by omega)
    refine pk_eq (T (16 * b + k) * 4 + T (16 * b + (k + 1))) x (fun z => ?_) (fun z => ?_) e rfl (by omega) (by omega)
    · rw [nd_cn_t (T := (fun i => T (16 * b + i))) z] at hk1
      exact nm_r (nI_1 _) (nm_r (nI_1 _) hk1)
    · rw [nd_cn_f (T := (fun i => T (16 * b + i))) z] at hk1
      exact nm_r (nI_1 _) hk1
theorem xw_cp {post : Int32 → Prop} {aL aN aC : Nat → Int32} {T : Nat → Nat} {y z : Int32} (hL : ∀ i, i < 144 → aL i = nI (T i)) (hT : ∀ i, T i < 4) (b n x : Nat) (hy : y = nI b) (hz : z = nI x) (hb : b < 9) (hN : aN b = nI n) (hn : n ≤ 16) (hx : x < 16)
    (hp : post (nI (nd_cn (fun i => T (16 * b + i)) x (n - 1)))) : wpX_countPair post (aL, aN, aC) y z := by
  subst hy hz
  refine ⟨vp_in_nI (by omega) (by omega), ?_⟩
  intro w ew
  rw [nI_clamp (by omega), hN] at ew
  subst ew
  exact ⟨n - 1 + 1, xw_cp_loop hL hT b n x hb hn hx hp (n - 1) 0 (by omega)⟩
theorem xw_pairs_loop {post : Int32 → Prop} {aL aN aC : Nat → Int32} {T : Nat → Nat} (hL : ∀ i, i < 144 → aL i = nI (T i)) (hT : ∀ i, T i < 4) (b m n : Nat) (hb : b < 9) (hA : aN 8 = nI m) (hB : aN b = nI n) (hm : m ≤ 16) (hn : n ≤ 16)
    (hp : post (nI (nd_sm (fun x => nd_cn (fun i => T (16 * 8 + i)) x (m - 1)) (fun x => nd_cn (fun i => T (16 * b + i)) x (n - 1)) 16))) : ∀ d k, k + d = 16 → wX_pairs_13 post (nI b) aL aN aC (d + 1) (nI (nd_sm (fun x => nd_cn (fun i => T (16 * 8 + i)) x (m - 1)) (fun x => nd_cn (fun i => T (16 * b + i)) x (n - 1)) k)) (nI k) := by
  intro d
  induction d with
  | zero =>
    intro k hk
    obtain rfl : k = 16 := by omega
    exact pk_le 16 16 (fun _ => hp) (fun z => absurd z (by omega))
  | succ d ih =>
    intro k hk
    have b1 := nd_cn_le (fun i => T (16 * 8 + i)) k (m - 1)
    have b2 := nd_cn_le (fun i => T (16 * b + i)) k (n - 1)
    refine pk_le 16 k (fun z => absurd z (by omega)) (fun _ => ?_)
    refine xw_cp hL hT 8 m k rfl rfl (by omega) hA hm (by omega) ?_
    refine xw_cp hL hT b n k rfl rfl hb hB hn (by omega) ?_
    refine xw_lesser _ _ rfl rfl (Nat.lt_of_le_of_lt b1 (by omega)) (Nat.lt_of_le_of_lt b2 (by omega)) ?_
    exact nm_r (nI_add _ _) (nm_r (nI_1 k) (ih (k + 1) (by omega)))
theorem yw_iq_loop {post : Int32 → Prop} {fl fr fe : Int32} {aLt aLn aQ aLf aRt aT : Nat → Int32} (T : Nat → Nat) (hT : ∀ i, T i < 4) (m x : Nat) (hm : m ≤ 8) (hx : x < 16) (hQ : ∀ x, x < 8 → aQ x = nI (T (16 * 8 + x)))
    (hp : post (nI (nd_cn (fun i => T (16 * 8 + i)) x (m - 1)))) : ∀ d k, k + d = m - 1 → wY_inQuery_5 post (nI (x / 4)) (nI (x % 4)) (nI m) fl fr fe aLt aLn aQ aLf aRt aT (d + 1) (nI (nd_cn (fun i => T (16 * 8 + i)) x k)) (nI k) := by
  intro d
  induction d with
  | zero =>
    intro k hk
    obtain rfl : k = m - 1 := by omega
    exact pk_le m (m - 1 + 1) (fun _ => hp) (fun z => absurd z (by omega)) rfl (nI_1 _)
  | succ d ih =>
    intro k hk
    have b1 := hT (16 * 8 + k)
    have b2 := hT (16 * 8 + (k + 1))
    have hk1 := ih (k + 1) (by omega)
    refine pk_le m (k + 1) (fun z => absurd z (by omega)) (fun _ => ?_) rfl (nI_1 k)
    rw [nI_1 k, nI_clamp (n := k) (by omega), nI_clamp (n := k + 1) (by omega), hQ k (by omega), hQ (k + 1) (by omega)]
    refine ⟨vp_in_nI (by omega) (by omega), pk_eq (T (16 * 8 + k)) (x / 4) (fun z1 => ⟨vp_in_nI (by omega) (by omega), pk_eq (T (16 * 8 + (k + 1))) (x % 4) (fun z2 => ?_) (fun z2 => ?_)⟩) (fun z1 => ?_)⟩
    · rw [nd_cn_t (T := (fun i => T (16 * 8 + i))) (show T (16 * 8 + k) * 4 + T (16 * 8 + (k + 1)) = x by omega)] at hk1
      exact nm_r (nI_1 _) (nm_e hk1)
    · rw [nd_cn_f (T := (fun i => T (16 * 8 + i))) (show ¬ T (16 * 8 + k) * 4 + T (16 * 8 + (k + 1)) = x by omega)] at hk1
      exact nm_e hk1
    · rw [nd_cn_f (T := (fun i => T (16 * 8 + i))) (show ¬ T (16 * 8 + k) * 4 + T (16 * 8 + (k + 1)) = x by omega)] at hk1
      exact nm_e hk1
theorem yw_ix2 (b k : Nat) : 16 * nI b + nI k = nI (16 * b + k) := by
  show nI 16 * nI b + nI k = _
  rw [pk_mul, nI_add]
theorem yw_id_loop {post : Int32 → Prop} {ft fl fr fe : Int32} {aLt aLn aQ aLf aRt aT : Nat → Int32} (T : Nat → Nat) (hT : ∀ i, T i < 4) (b n x : Nat) (hb : b < 8) (hn : n ≤ 16) (hx : x < 16) (hN : aLn b = nI n) (hL : ∀ x, x < 128 → aLt x = nI (T x))
    (hp : post (nI (nd_cn (fun i => T (16 * b + i)) x (n - 1)))) : ∀ d k, k + d = n - 1 → wY_inDoc_6 post (nI b) (nI (x / 4)) (nI (x % 4)) ft fl fr fe aLt aLn aQ aLf aRt aT (d + 1) (nI (nd_cn (fun i => T (16 * b + i)) x k)) (nI k) := by
  intro d
  induction d with
  | zero =>
    intro k hk
    obtain rfl : k = n - 1 := by omega
    refine ⟨vp_in_nI (by omega) (by omega), ?_⟩
    rw [nI_clamp (n := b) (by omega), hN]
    exact pk_le n (n - 1 + 1) (fun _ => hp) (fun z => absurd z (by omega)) rfl (nI_1 _)
  | succ d ih =>
    intro k hk
    have b1 := hT (16 * b + k)
    have b2 := hT (16 * b + (k + 1))
    have hk1 := ih (k + 1) (by omega)
    refine ⟨vp_in_nI (by omega) (by omega), ?_⟩
    rw [nI_clamp (n := b) (by omega), hN]
    refine pk_le n (k + 1) (fun z => absurd z (by omega)) (fun _ => ?_) rfl (nI_1 k)
    rw [yw_ix2, nI_1 (16 * b + k), nI_1 k, nI_clamp (n := 16 * b + k) (by omega), nI_clamp (n := 16 * b + k + 1) (by omega), hL (16 * b + k) (by omega), hL (16 * b + k + 1) (by omega)]
    refine ⟨vp_in_nI (by omega) (by omega), pk_eq (T (16 * b + k)) (x / 4) (fun z1 => ⟨vp_in_nI (by omega) (by omega), pk_eq (T (16 * b + (k + 1))) (x % 4) (fun z2 => ?_) (fun z2 => ?_)⟩) (fun z1 => ?_)⟩
    · rw [nd_cn_t (T := (fun i => T (16 * b + i))) (show T (16 * b + k) * 4 + T (16 * b + (k + 1)) = x by omega)] at hk1
      exact nm_r (nI_1 _) (nm_e hk1)
    · rw [nd_cn_f (T := (fun i => T (16 * b + i))) (show ¬ T (16 * b + k) * 4 + T (16 * b + (k + 1)) = x by omega)] at hk1
      exact nm_e hk1
    · rw [nd_cn_f (T := (fun i => T (16 * b + i))) (show ¬ T (16 * b + k) * 4 + T (16 * b + (k + 1)) = x by omega)] at hk1
      exact nm_e hk1
theorem yw_pairs_loop {post : Int32 → Prop} {fl fr fe : Int32} {aLt aLn aQ aLf aRt aT : Nat → Int32} (T : Nat → Nat) (hT : ∀ i, T i < 4) (b m n : Nat) (hb : b < 8) (hm : m ≤ 8) (hn : n ≤ 16) (hN : aLn b = nI n) (hL : ∀ x, x < 128 → aLt x = nI (T x)) (hQ : ∀ x, x < 8 → aQ x = nI (T (16 * 8 + x)))
    (hp : post (nI (nd_sm (fun x => nd_cn (fun i => T (16 * 8 + i)) x (m - 1)) (fun x => nd_cn (fun i => T (16 * b + i)) x (n - 1)) 16))) : ∀ d k, k + d = 16 → wY_pairs_13 post (nI b) (nI m) fl fr fe aLt aLn aQ aLf aRt aT (d + 1) (nI (nd_sm (fun x => nd_cn (fun i => T (16 * 8 + i)) x (m - 1)) (fun x => nd_cn (fun i => T (16 * b + i)) x (n - 1)) k)) (nI k) := by
  intro d
  induction d with
  | zero =>
    intro k hk
    obtain rfl : k = 16 := by omega
    exact pk_le 16 16 (fun _ => hp) (fun z => absurd z (by omega))
  | succ d ih =>
    intro k hk
    have b1 := nd_cn_le (fun i => T (16 * 8 + i)) k (m - 1)
    have b2 := nd_cn_le (fun i => T (16 * b + i)) k (n - 1)
    have hk1 := ih (k + 1) (by omega)
    have e1 : nI k / 4 = nI (k / 4) := pk_div (d := 4) (by omega) (by omega) (by omega)
    have e2 : nI k - nI (k / 4) * 4 = nI (k % 4) := by rw [← e1]; exact pk_rem (d := 4) (by omega) (by omega) (by omega)
    refine pk_le 16 k (fun z => absurd z (by omega)) (fun _ => ?_)
    rw [e1, e2]
    refine ⟨by decide, by decide, ?_⟩
    refine ⟨m - 1 + 1, yw_iq_loop T hT m k hm (by omega) hQ ?_ (m - 1) 0 (by omega)⟩
    refine ⟨by decide, by decide, ?_⟩
    refine ⟨n - 1 + 1, yw_id_loop T hT b n k hb hn (by omega) hN hL ?_ (n - 1) 0 (by omega)⟩
    have es : nd_sm (fun x => nd_cn (fun i => T (16 * 8 + i)) x (m - 1)) (fun x => nd_cn (fun i => T (16 * b + i)) x (n - 1)) (k + 1) = nd_sm (fun x => nd_cn (fun i => T (16 * 8 + i)) x (m - 1)) (fun x => nd_cn (fun i => T (16 * b + i)) x (n - 1)) k + min (nd_cn (fun i => T (16 * 8 + i)) k (m - 1)) (nd_cn (fun i => T (16 * b + i)) k (n - 1)) := rfl
    rw [es] at hk1
    refine pk_le (nd_cn (fun i => T (16 * b + i)) k (n - 1)) (nd_cn (fun i => T (16 * 8 + i)) k (m - 1)) (fun z => ?_) (fun z => ?_) rfl rfl (Nat.lt_of_le_of_lt b2 (by omega)) (Nat.lt_of_le_of_lt b1 (by omega))
    · rw [Nat.min_eq_right z] at hk1
      exact nm_r (nI_add _ _) (nm_r (nI_1 k) hk1)
    · rw [Nat.min_eq_left (Nat.le_of_lt z)] at hk1
      exact nm_r (nI_add _ _) (nm_r (nI_1 k) hk1)
end
section
/-! the relation -/
def nd_T (T N : Nat → Nat) : Prop := (∀ i, T i < 4) ∧ (∀ r, N r ≤ 16) ∧ N 8 ≤ 8
def nd_X (T N : Nat → Nat) (aL aN : Nat → Int32) : Prop := (∀ i, i < 144 → aL i = nI (T i)) ∧ (∀ r, r < 9 → aN r = nI (N r))
def nd_Y (T N : Nat → Nat) (ft : Int32) (aLt aLn aQ : Nat → Int32) : Prop := ft = nI (N 8) ∧ (∀ i, i < 128 → aLt i = nI (T i)) ∧ (∀ r, r < 8 → aLn r = nI (N r)) ∧ (∀ i, i < 8 → aQ i = nI (T (16 * 8 + i)))
def i_Rel (k : Nat) (u : SX) (v : SY) : Prop := ∃ T N : Nat → Nat, nd_T T N ∧ nd_X T N u.1 u.2.1 ∧ nd_Y T N v.1 v.2.2.2.2.1 v.2.2.2.2.2.1 v.2.2.2.2.2.2.1
theorem i_up {k : Nat} {u : SX} {v : SY} (h : i_Rel k u v) : i_Rel (k + 3) u v := h
theorem i_vc0 : wpX_init (fun u => wpY_init (fun v => i_Rel 0 u v)) :=
  ⟨fun _ => 0, fun _ => 0, ⟨fun _ => Nat.zero_lt_succ 3, fun _ => Nat.zero_le 16, Nat.zero_le 8⟩, ⟨fun _ _ => rfl, fun _ _ => rfl⟩, ⟨rfl, fun _ _ => rfl, fun _ _ => rfl, fun _ _ => rfl⟩⟩
theorem nd_mk (k : Nat) {T N : Nat → Nat} {aL aN aC : Nat → Int32} {ft fl fr fe : Int32} {aLt aLn aQ aLf aRt aT : Nat → Int32} (h : nd_T T N) (hx : nd_X T N aL aN) (hy : nd_Y T N ft aLt aLn aQ) : i_Rel k (aL, aN, aC) (ft, fl, fr, fe, aLt, aLn, aQ, aLf, aRt, aT) := ⟨T, N, h, hx, hy⟩
def nd_up (f : Nat → Nat) (k x : Nat) : Nat → Nat := fun j => if j = k then x else f j
theorem nd_up_s (f : Nat → Nat) (k x : Nat) : nd_up f k x k = x := if_pos rfl
theorem nd_up_n {f : Nat → Nat} {k x j : Nat} (h : j ≠ k) : nd_up f k x j = f j := if_neg h
theorem nd_up_a {f : Nat → Nat} {a : Nat → Int32} {M : Nat} (k x : Nat) (h : ∀ i, i < M → a i = nI (f i)) : ∀ i, i < M → upd a k (nI x) i = nI (nd_up f k x i) := by
  intro i hi
  by_cases z : i = k
  · subst z
    rw [pk_us, nd_up_s]
  · rw [pk_un z, nd_up_n z]
    exact h i hi
theorem nd_up_le {f : Nat → Nat} {M : Nat} (k x : Nat) (h : ∀ i, f i ≤ M) (hx : x ≤ M) : ∀ i, nd_up f k x i ≤ M := by
  intro i
  by_cases z : i = k
  · subst z
    rwa [nd_up_s]
  · rw [nd_up_n z]
    exact h i
theorem nd_up_lt {f : Nat → Nat} {M : Nat} (k x : Nat) (h : ∀ i, f i < M) (hx : x < M) : ∀ i, nd_up f k x i < M := by
  intro i
  by_cases z : i = k
  · subst z
    rwa [nd_up_s]
  · rw [nd_up_n z]
    exact h i
/-! which numbers are documents -/
theorem xw_doc_t {post : Int32 → Prop} (b : Nat) (hb : b < 8) (h : post 1) : wpX_isDocument post (nI b) := br_f (nI_pos (by omega)) (br_f (nI_ge (b := 8) hb (by decide)) h)
theorem xw_doc_f {post : Int32 → Prop} {x : Int32} (hx : x < 0 ∨ nI 8 ≤ x) (h : post 0) : wpX_isDocument post x := by
  by_cases z : x < 0
  · exact br_t z h
  · exact br_f z (br_t (hx.resolve_left z) h)
theorem yw_doc_t {post : Int32 → Prop} (b : Nat) (hb : b < 8) (h : post 0) : wpY_bad post (nI b) := br_f (nI_pos (by omega)) (br_t (nI_le (b := 7) (by omega) (by decide)) h)
theorem yw_doc_f {post : Int32 → Prop} {x : Int32} (hx : x < 0 ∨ nI 8 ≤ x) (h : post 1) : wpY_bad post x := by
  by_cases z : x < 0
  · exact br_t z h
  · refine br_f z (br_f (fun w => ?_) h)
    have h8 := hx.resolve_left z
    obtain ⟨j, hj, rfl⟩ := nI_of z
    rw [nI_leI (by decide) hj] at h8
    exact nI_ge (a := 7) (b := j) (by omega) hj w
/-! write, wipe, type, clear -/
theorem xw_append {post : Int32 → SX → Prop} {aL aN aC : Nat → Int32} {x z : Int32} (y : Int32) (r n cap : Nat) (hx : x = nI r) (hz : z = nI cap) (hr : r < 9) (hN : aN r = nI n) (hn : n ≤ 16) (hcap : cap ≤ 16)
    (h1 : n < cap → post (nI (n + 1)) (upd aL (16 * r + n) (y &&& 3), upd aN r (nI (n + 1)), aC)) (h2 : cap ≤ n → post (-1) (aL, aN, aC)) : wpX_append post (aL, aN, aC) x y z := by
  subst hx hz
  refine ⟨vp_in_nI (by omega) (by omega), ?_⟩
  intro w ew
  rw [nI_clamp (by omega), hN] at ew
  subst ew
  refine pk_lt n cap (fun hl => ?_) (fun hl => h2 hl)
  rw [xw_at, nI_clamp (n := r) (by omega), nI_clamp (n := 16 * r + n) (by omega), nI_1]
  exact ⟨vp_in_nI (by omega) (by omega), nm_e ⟨vp_in_nI (by omega) (by omega), nm_e (h1 hl)⟩⟩
theorem yw_write {post : Int32 → SY → Prop} {ft fl fr fe : Int32} {aLt aLn aQ aLf aRt aT : Nat → Int32} (y : Int32) (b n : Nat) (hb : b < 8) (hN : aLn b = nI n) (hn : n ≤ 16)
    (h1 : n < 16 → post (nI (n + 1)) (ft, fl, fr, fe, upd aLt (16 * b + n) (y &&& 3), upd aLn b (nI (n + 1)), aQ, aLf, aRt, aT)) (h2 : 16 ≤ n → post (-1) (ft, fl, fr, fe, aLt, aLn, aQ, aLf, aRt, aT)) : wpY_write post (ft, fl, fr, fe, aLt, aLn, aQ, aLf, aRt, aT) (nI b) y := by
  unfold wpY_write
  dsimp only
  refine yw_doc_t b hb (br_t rfl ?_)
  rw [nI_clamp (n := b) (by omega), hN]
  refine ⟨vp_in_nI (by omega) (by omega), pk_eq n 16 (fun z => h2 (by omega)) (fun z => ?_)⟩
  rw [yw_ix2, nI_clamp (n := 16 * b + n) (by omega), nI_1]
  refine ⟨vp_in_nI (by omega) (by omega), vp_in_nI (by omega) (by omega), nm_e ⟨vp_in_nI (by omega) (by omega), vp_in_nI (by omega) (by omega), nm_e ⟨vp_in_nI (by omega) (by omega), ?_⟩⟩⟩
  rw [pk_us]
  exact h1 (by omega)
theorem i_vc_write {k : Nat} {u : SX} {v : SY} (I : i_Rel k u v) (hk : k + 3 ≤ 1536) (v1 : Int32) (v2 : Int32) : wpX_write (fun r u' => wpY_write (fun r' v' => r' = r ∧ i_Rel (k + 3) u' v') v v1 v2) u v1 v2 := by
  obtain ⟨aL, aN, aC⟩ := u
  obtain ⟨ft, fl, fr, fe, aLt, aLn, aQ, aLf, aRt, aT⟩ := v
  have I0 := i_up I
  obtain ⟨T, N, ⟨hT, hN, hN8⟩, ⟨hL, hA⟩, hft, hLt, hLn, hQ⟩ := I
  dsimp only at hL hA hft hLt hLn hQ
  have bad : (v1 < 0 ∨ nI 8 ≤ v1) → wpX_write (fun r u' => wpY_write (fun r' v' => r' = r ∧ i_Rel (k + 3) u' v') (ft, fl, fr, fe, aLt, aLn, aQ, aLf, aRt, aT) v1 v2) (aL, aN, aC) v1 v2 := by
    intro h
    unfold wpX_write
    dsimp only
    refine xw_doc_f h (br_t rfl ?_)
    unfold wpY_write
    dsimp only
    exact yw_doc_f h (br_f (by decide) ⟨rfl, I0⟩)
  rcases pk_ix v1 (n := 8) (by decide) with h | h | ⟨b, hb, rfl⟩
  · exact bad (Or.inl h)
  · exact bad (Or.inr h)
  · unfold wpX_write
    dsimp only
    refine xw_doc_t b hb (br_f (by decide) ?_)
    have hnb := hN b
    refine xw_append v2 b (N b) 16 rfl rfl (by omega) (hA b (by omega)) hnb (by omega) (fun hl => ?_) (fun hl => ?_)
    · refine yw_write v2 b (N b) hb (hLn b hb) hnb (fun _ => ?_) (fun hg => absurd hg (by omega))
      obtain ⟨c, hc, ec⟩ := pk_andE v2 (m := 3) 2 (by decide)
      have hc4 : c < 4 := hc
      rw [ec]
      refine ⟨rfl, nd_mk _ (T := nd_up T (16 * b + N b) c) (N := nd_up N b (N b + 1)) ⟨nd_up_lt _ _ hT hc4, nd_up_le _ _ hN (by omega), ?_⟩ ⟨nd_up_a _ _ hL, nd_up_a _ _ hA⟩ ⟨?_, nd_up_a _ _ hLt, nd_up_a _ _ hLn, fun i hi => ?_⟩⟩
      · rw [nd_up_n (by omega)]
        exact hN8
      · rw [nd_up_n (by omega)]
        exact hft
      · rw [nd_up_n (by omega)]
        exact hQ i hi
    · refine yw_write v2 b (N b) hb (hLn b hb) hnb (fun hg => absurd hg (by omega)) (fun _ => ⟨rfl, I0⟩)
theorem i_vc_wipe {k : Nat} {u : SX} {v : SY} (I : i_Rel k u v) (hk : k + 3 ≤ 1536) (v1 : Int32) : wpX_wipe (fun r u' => wpY_wipe (fun r' v' => r' = r ∧ i_Rel (k + 3) u' v') v v1) u v1 := by
  obtain ⟨aL, aN, aC⟩ := u
  obtain ⟨ft, fl, fr, fe, aLt, aLn, aQ, aLf, aRt, aT⟩ := v
  have I0 := i_up I
  obtain ⟨T, N, ⟨hT, hN, hN8⟩, ⟨hL, hA⟩, hft, hLt, hLn, hQ⟩ := I
  dsimp only at hL hA hft hLt hLn hQ
  have bad : (v1 < 0 ∨ nI 8 ≤ v1) → wpX_wipe (fun r u' => wpY_wipe (fun r' v' => r' = r ∧ i_Rel (k + 3) u' v') (ft, fl, fr, fe, aLt, aLn, aQ, aLf, aRt, aT) v1) (aL, aN, aC) v1 := by
    intro h
    unfold wpX_wipe
    dsimp only
    refine xw_doc_f h (br_t rfl ?_)
    unfold wpY_wipe
    dsimp only
    exact yw_doc_f h (br_f (by decide) ⟨rfl, I0⟩)
  rcases pk_ix v1 (n := 8) (by decide) with h | h | ⟨b, hb, rfl⟩
  · exact bad (Or.inl h)
  · exact bad (Or.inr h)
  · unfold wpX_wipe
    dsimp only
    refine xw_doc_t b hb (br_f (by decide) ?_)
    rw [nI_clamp (n := b) (by omega), hA b (by omega)]
    refine ⟨vp_in_nI (by omega) (by omega), nm_e ⟨vp_in_nI (by omega) (by omega), nm_e ?_⟩⟩
    unfold wpY_wipe
    dsimp only
    refine yw_doc_t b hb (br_t rfl ?_)
    rw [nI_clamp (n := b) (by omega), hLn b hb]
    refine ⟨vp_in_nI (by omega) (by omega), nm_e ⟨vp_in_nI (by omega) (by omega), nm_e ⟨rfl, ?_⟩⟩⟩
    refine nd_mk _ (T := T) (N := nd_up N b 0) ⟨hT, nd_up_le _ _ hN (by omega), ?_⟩ ⟨hL, nd_up_a _ _ hA⟩ ⟨?_, hLt, nd_up_a _ _ hLn, hQ⟩
    · rw [nd_up_n (by omega)]
      exact hN8
    · rw [nd_up_n (by omega)]
      exact hft
theorem i_vc_type {k : Nat} {u : SX} {v : SY} (I : i_Rel k u v) (hk : k + 3 ≤ 1536) (v1 : Int32) : wpX_type (fun r u' => wpY_type (fun r' v' => r' = r ∧ i_Rel (k + 3) u' v') v v1) u v1 := by
  obtain ⟨aL, aN, aC⟩ := u
  obtain ⟨ft, fl, fr, fe, aLt, aLn, aQ, aLf, aRt, aT⟩ := v
  have I0 := i_up I
  obtain ⟨T, N, ⟨hT, hN, hN8⟩, ⟨hL, hA⟩, hft, hLt, hLn, hQ⟩ := I
  dsimp only at hL hA hft hLt hLn hQ
  unfold wpX_type
  dsimp only
  subst hft
  refine xw_append v1 8 (N 8) 8 rfl rfl (by omega) (hA 8 (by omega)) (by omega) (by omega) (fun hl => ?_) (fun hl => ?_)
  · unfold wpY_type
    dsimp only
    refine pk_eq (N 8) 8 (fun z => absurd z (by omega)) (fun z => ?_)
    obtain ⟨c, hc, ec⟩ := pk_andE v1 (m := 3) 2 (by decide)
    have hc4 : c < 4 := hc
    rw [ec, nI_clamp (by omega), nI_1]
    refine ⟨vp_in_nI (by omega) (by omega), nm_e (nm_e ⟨rfl, ?_⟩)⟩
    refine nd_mk _ (T := nd_up T (16 * 8 + N 8) c) (N := nd_up N 8 (N 8 + 1)) ⟨nd_up_lt _ _ hT hc4, nd_up_le _ _ hN (by omega), ?_⟩ ⟨nd_up_a _ _ hL, nd_up_a _ _ hA⟩ ⟨?_, fun i hi => ?_, fun r hr => ?_, fun i hi => ?_⟩
    · rw [nd_up_s]
      omega
    · rw [nd_up_s]
    · rw [nd_up_n (by omega)]
      exact hLt i hi
    · rw [nd_up_n (by omega)]
      exact hLn r hr
    · by_cases zi : i = N 8
      · subst zi
        rw [pk_us, nd_up_s]
      · rw [pk_un zi, nd_up_n (by omega)]
        exact hQ i hi
  · unfold wpY_type
    dsimp only
    exact pk_eq (N 8) 8 (fun z => ⟨rfl, I0⟩) (fun z => absurd z (by omega))
theorem i_vc_clear {k : Nat} {u : SX} {v : SY} (I : i_Rel k u v) (hk : k + 3 ≤ 1536) : wpX_clear (fun u' => wpY_clear (fun v' => i_Rel (k + 3) u' v') v) u := by
  obtain ⟨aL, aN, aC⟩ := u
  obtain ⟨ft, fl, fr, fe, aLt, aLn, aQ, aLf, aRt, aT⟩ := v
  obtain ⟨T, N, ⟨hT, hN, hN8⟩, ⟨hL, hA⟩, hft, hLt, hLn, hQ⟩ := I
  dsimp only at hL hA hft hLt hLn hQ
  refine nm_e ?_
  unfold wpY_clear
  dsimp only
  show i_Rel (k + 3) (aL, upd aN 8 (nI 0), aC) (nI 0, fl, fr, fe, aLt, aLn, aQ, aLf, aRt, aT)
  refine nd_mk _ (T := T) (N := nd_up N 8 0) ⟨hT, nd_up_le _ _ hN (by omega), ?_⟩ ⟨hL, nd_up_a _ _ hA⟩ ⟨?_, hLt, fun r hr => ?_, hQ⟩
  · rw [nd_up_s]
    omega
  · rw [nd_up_s]
  · rw [nd_up_n (by omega)]
    exact hLn r hr
end
section
/-! distance, end, whole, between, pairs -/
theorem i_vc_distance {k : Nat} {u : SX} {v : SY} (I : i_Rel k u v) (hk : k + 3 ≤ 1536) (v1 : Int32) : wpX_distance (fun r u' => wpY_distance (fun r' v' => r' = r ∧ i_Rel (k + 3) u' v') v v1) u v1 := by
  obtain ⟨aL, aN, aC⟩ := u
  obtain ⟨ft, fl, fr, fe, aLt, aLn, aQ, aLf, aRt, aT⟩ := v
  have I0 := i_up I
  obtain ⟨T, N, ⟨hT, hN, hN8⟩, ⟨hL, hA⟩, hft, hLt, hLn, hQ⟩ := I
  dsimp only at hL hA hft hLt hLn hQ
  have bad : (v1 < 0 ∨ nI 8 ≤ v1) → wpX_distance (fun r u' => wpY_distance (fun r' v' => r' = r ∧ i_Rel (k + 3) u' v') (ft, fl, fr, fe, aLt, aLn, aQ, aLf, aRt, aT) v1) (aL, aN, aC) v1 := by
    intro h
    unfold wpX_distance
    dsimp only
    refine xw_doc_f h (br_t rfl ?_)
    unfold wpY_distance
    dsimp only
    exact yw_doc_f h (br_f (by decide) ⟨rfl, I0⟩)
  rcases pk_ix v1 (n := 8) (by decide) with h | h | ⟨b, hb, rfl⟩
  · exact bad (Or.inl h)
  · exact bad (Or.inr h)
  · unfold wpX_distance
    dsimp only
    refine xw_doc_t b hb (br_f (by decide) ?_)
    refine xw_least hL hT b (N 8) (N b) rfl (by omega) (hA 8 (by omega)) (hA b (by omega)) (hN 8) (hN b) (fun aC' => ?_)
    unfold wpY_distance
    dsimp only
    refine yw_doc_t b hb (br_t rfl ?_)
    refine yw_search T hT b (N 8) (N b) rfl hft hb hN8 (hN b) (hLn b hb) hLt hQ (fun fl' fr' e aLf' aRt' aT' he => ?_)
    exact ⟨rfl, nd_mk _ ⟨hT, hN, hN8⟩ ⟨hL, hA⟩ ⟨rfl, hLt, hLn, hQ⟩⟩
theorem i_vc_end {k : Nat} {u : SX} {v : SY} (I : i_Rel k u v) (hk : k + 3 ≤ 1536) (v1 : Int32) : wpX_end (fun r u' => wpY_end (fun r' v' => r' = r ∧ i_Rel (k + 3) u' v') v v1) u v1 := by
  obtain ⟨aL, aN, aC⟩ := u
  obtain ⟨ft, fl, fr, fe, aLt, aLn, aQ, aLf, aRt, aT⟩ := v
  have I0 := i_up I
  obtain ⟨T, N, ⟨hT, hN, hN8⟩, ⟨hL, hA⟩, hft, hLt, hLn, hQ⟩ := I
  dsimp only at hL hA hft hLt hLn hQ
  have bad : (v1 < 0 ∨ nI 8 ≤ v1) → wpX_end (fun r u' => wpY_end (fun r' v' => r' = r ∧ i_Rel (k + 3) u' v') (ft, fl, fr, fe, aLt, aLn, aQ, aLf, aRt, aT) v1) (aL, aN, aC) v1 := by
    intro h
    unfold wpX_end
    dsimp only
    refine xw_doc_f h (br_t rfl ?_)
    unfold wpY_end
    dsimp only
    exact yw_doc_f h (br_f (by decide) ⟨rfl, I0⟩)
  rcases pk_ix v1 (n := 8) (by decide) with h | h | ⟨b, hb, rfl⟩
  · exact bad (Or.inl h)
  · exact bad (Or.inr h)
  · unfold wpX_end
    dsimp only
    refine xw_doc_t b hb (br_f (by decide) ?_)
    refine xw_least hL hT b (N 8) (N b) rfl (by omega) (hA 8 (by omega)) (hA b (by omega)) (hN 8) (hN b) (fun aC' => ?_)
    obtain ⟨e, he⟩ := nd_Fe_ex (fun i => T (16 * 8 + i)) (fun i => T (16 * b + i)) (N 8) (N b)
    have hbl := nd_bl_m (fun i => T (16 * 8 + i)) (fun i => T (16 * b + i)) (N 8) (N b)
    refine xw_first hL hT b (N 8) (N b) (nd_bl (fun i => T (16 * 8 + i)) (fun i => T (16 * b + i)) (N 8) (N b)) e rfl rfl (by omega) (hA 8 (by omega)) (hA b (by omega)) (hN 8) (hN b) (Nat.le_trans hbl (by omega)) he (fun aC2 => ?_)
    unfold wpY_end
    dsimp only
    refine yw_doc_t b hb (br_t rfl ?_)
    refine yw_search T hT b (N 8) (N b) rfl hft hb hN8 (hN b) (hLn b hb) hLt hQ (fun fl' fr' e' aLf' aRt' aT' he' => ?_)
    refine ⟨?_, nd_mk _ ⟨hT, hN, hN8⟩ ⟨hL, hA⟩ ⟨rfl, hLt, hLn, hQ⟩⟩
    rw [nd_Fe_u he' he]
theorem i_vc_whole {k : Nat} {u : SX} {v : SY} (I : i_Rel k u v) (hk : k + 3 ≤ 1536) (v1 : Int32) : wpX_whole (fun r u' => wpY_whole (fun r' v' => r' = r ∧ i_Rel (k + 3) u' v') v v1) u v1 := by
  obtain ⟨aL, aN, aC⟩ := u
  obtain ⟨ft, fl, fr, fe, aLt, aLn, aQ, aLf, aRt, aT⟩ := v
  have I0 := i_up I
  obtain ⟨T, N, ⟨hT, hN, hN8⟩, ⟨hL, hA⟩, hft, hLt, hLn, hQ⟩ := I
  dsimp only at hL hA hft hLt hLn hQ
  have bad : (v1 < 0 ∨ nI 8 ≤ v1) → wpX_whole (fun r u' => wpY_whole (fun r' v' => r' = r ∧ i_Rel (k + 3) u' v') (ft, fl, fr, fe, aLt, aLn, aQ, aLf, aRt, aT) v1) (aL, aN, aC) v1 := by
    intro h
    unfold wpX_whole
    dsimp only
    refine xw_doc_f h (br_t rfl ?_)
    unfold wpY_whole
    dsimp only
    exact yw_doc_f h (br_f (by decide) ⟨rfl, I0⟩)
  rcases pk_ix v1 (n := 8) (by decide) with h | h | ⟨b, hb, rfl⟩
  · exact bad (Or.inl h)
  · exact bad (Or.inr h)
  · unfold wpX_whole
    dsimp only
    refine xw_doc_t b hb (br_f (by decide) ?_)
    refine xw_row hL hT 8 b (N 8) (N b) rfl rfl (by omega) (by omega) (hA 8 (by omega)) (hA b (by omega)) (hN 8) (hN b) (fun aC' => ?_)
    subst hft
    unfold wpY_whole
    dsimp only
    refine yw_doc_t b hb (br_t rfl ?_)
    refine yw_lq (fl := fl) (fun i => T (16 * 8 + i)) (N 8) hN8 hQ (fun aLf' h1 => ?_)
    refine ⟨vp_in_nI (by omega) (by omega), ?_⟩
    dsimp only
    rw [nI_clamp (by omega), hLn b hb]
    refine yw_lp T b 0 (N b) rfl rfl rfl hb (by omega) (hN b) hLt (fun aRt' h2 => ?_)
    refine yw_cmp (fun i => T (16 * 8 + i)) (fun i => T (16 * b + i)) (fun i => hT _) (fun i => hT _) (N 8) (N b) (hN 8) (hN b) h1 (fun x hx => ?_) (fun aT' => ?_)
    · have h3 := h2 x hx
      rwa [Nat.zero_add] at h3
    · exact ⟨rfl, nd_mk _ ⟨hT, hN, hN8⟩ ⟨hL, hA⟩ ⟨rfl, hLt, hLn, hQ⟩⟩
theorem yw_bt_loop {post : Int32 → SY → Prop} {ft fr fe : Int32} {aLt aLn aQ aRt aT : Nat → Int32} (T : Nat → Nat) (hT : ∀ i, T i < 4) (a b m n : Nat) (ha : a < 8) (hb : b < 8) (hm : m ≤ 16) (hn : n ≤ 16) (hN : aLn b = nI n) (hL : ∀ x, x < 128 → aLt x = nI (T x))
    (hp : ∀ aLf' aRt' aT', post (nI (nd_ed (fun i => T (16 * a + i)) (fun i => T (16 * b + i)) n m)) (ft, nI m, nI n, fe, aLt, aLn, aQ, aLf', aRt', aT')) : ∀ d i aLf, i + d = m → (∀ x, x < i → aLf x = nI (T (16 * a + x))) → wY_between_28 post (nI a) (nI b) ft (nI m) fr fe (d + 1) (nI i) aLt aLn aQ aLf aRt aT := by
  intro d
  induction d with
  | zero =>
    intro i aLf hi h1
    obtain rfl : i = m := by omega
    refine pk_le i i (fun _ => ?_) (fun z => absurd z (by omega))
    refine ⟨vp_in_nI (by omega) (by omega), ?_⟩
    rw [nI_clamp (by omega), hN]
    refine yw_lp T b 0 n rfl rfl rfl hb (by omega) hn hL (fun aRt' h2 => ?_)
    refine yw_cmp (fun i => T (16 * a + i)) (fun i => T (16 * b + i)) (fun i => hT _) (fun i => hT _) i n hm hn h1 (fun x hx => ?_) (fun aT' => ?_)
    · have h3 := h2 x hx
      rwa [Nat.zero_add] at h3
    · exact hp _ _ _
  | succ d ih =>
    intro i aLf hi h1
    refine pk_le m i (fun z => absurd z (by omega)) (fun _ => ?_)
    rw [yw_ix2, nI_clamp (n := i) (by omega), nI_clamp (n := 16 * a + i) (by omega), hL (16 * a + i) (by omega)]
    refine ⟨vp_in_nI (by omega) (by omega), vp_in_nI (by omega) (by omega), nm_e (nm_r (nI_1 i) (ih (i + 1) _ (by omega) (fun x hx => ?_)))⟩
    by_cases zx : x = i
    · subst zx; exact pk_us
    · rw [pk_un zx]; exact h1 x (by omega)
theorem i_vc_between {k : Nat} {u : SX} {v : SY} (I : i_Rel k u v) (hk : k + 3 ≤ 1536) (v1 : Int32) (v2 : Int32) : wpX_between (fun r u' => wpY_between (fun r' v' => r' = r ∧ i_Rel (k + 3) u' v') v v1 v2) u v1 v2 := by
  obtain ⟨aL, aN, aC⟩ := u
  obtain ⟨ft, fl, fr, fe, aLt, aLn, aQ, aLf, aRt, aT⟩ := v
  have I0 := i_up I
  obtain ⟨T, N, ⟨hT, hN, hN8⟩, ⟨hL, hA⟩, hft, hLt, hLn, hQ⟩ := I
  dsimp only at hL hA hft hLt hLn hQ
  have bad : (v1 < 0 ∨ nI 8 ≤ v1) → wpX_between (fun r u' => wpY_between (fun r' v' => r' = r ∧ i_Rel (k + 3) u' v') (ft, fl, fr, fe, aLt, aLn, aQ, aLf, aRt, aT) v1 v2) (aL, aN, aC) v1 v2 := by
    intro h
    unfold wpX_between
    dsimp only
    refine xw_doc_f h (br_t rfl ?_)
    unfold wpY_between
    dsimp only
    exact yw_doc_f h (br_f (by decide) ⟨rfl, I0⟩)
  have bad2 : ∀ a, a < 8 → (v2 < 0 ∨ nI 8 ≤ v2) → wpX_between (fun r u' => wpY_between (fun r' v' => r' = r ∧ i_Rel (k + 3) u' v') (ft, fl, fr, fe, aLt, aLn, aQ, aLf, aRt, aT) (nI a) v2) (aL, aN, aC) (nI a) v2 := by
    intro a ha h
    unfold wpX_between
    dsimp only
    refine xw_doc_t a ha (br_f (by decide) (xw_doc_f h (br_t rfl ?_)))
    unfold wpY_between
    dsimp only
    exact yw_doc_t a ha (br_t rfl (yw_doc_f h (br_f (by decide) ⟨rfl, I0⟩)))
  rcases pk_ix v1 (n := 8) (by decide) with h | h | ⟨a, ha, rfl⟩
  · exact bad (Or.inl h)
  · exact bad (Or.inr h)
  · rcases pk_ix v2 (n := 8) (by decide) with h | h | ⟨b, hb, rfl⟩
    · exact bad2 a ha (Or.inl h)
    · exact bad2 a ha (Or.inr h)
    · unfold wpX_between
      dsimp only
      refine xw_doc_t a ha (br_f (by decide) (xw_doc_t b hb (br_f (by decide) ?_)))
      refine xw_row hL hT a b (N a) (N b) rfl rfl (by omega) (by omega) (hA a (by omega)) (hA b (by omega)) (hN a) (hN b) (fun aC' => ?_)
      unfold wpY_between
      dsimp only
      refine yw_doc_t a ha (br_t rfl (yw_doc_t b hb (br_t rfl ?_)))
      rw [nI_clamp (by omega), hLn a ha]
      refine ⟨vp_in_nI (by omega) (by omega), nm_e ⟨N a + 1, ?_⟩⟩
      refine yw_bt_loop T hT a b (N a) (N b) ha hb (hN a) (hN b) (hLn b hb) hLt (fun aLf' aRt' aT' => ?_) (N a) 0 aLf (by omega) (fun x hx => absurd hx (Nat.not_lt_zero x))
      exact ⟨rfl, nd_mk _ ⟨hT, hN, hN8⟩ ⟨hL, hA⟩ ⟨hft, hLt, hLn, hQ⟩⟩
theorem i_vc_pairs {k : Nat} {u : SX} {v : SY} (I : i_Rel k u v) (hk : k + 3 ≤ 1536) (v1 : Int32) : wpX_pairs (fun r => wpY_pairs (fun r' => r' = r ∧ i_Rel (k + 3) u v) v v1) u v1 := by
  obtain ⟨aL, aN, aC⟩ := u
  obtain ⟨ft, fl, fr, fe, aLt, aLn, aQ, aLf, aRt, aT⟩ := v
  have I0 := i_up I
  obtain ⟨T, N, ⟨hT, hN, hN8⟩, ⟨hL, hA⟩, hft, hLt, hLn, hQ⟩ := I
  dsimp only at hL hA hft hLt hLn hQ
  have bad : (v1 < 0 ∨ nI 8 ≤ v1) → wpX_pairs (fun r => wpY_pairs (fun r' => r' = r ∧ i_Rel (k + 3) (aL, aN, aC) (ft, fl, fr, fe, aLt, aLn, aQ, aLf, aRt, aT)) (ft, fl, fr, fe, aLt, aLn, aQ, aLf, aRt, aT) v1) (aL, aN, aC) v1 := by
    intro h
    unfold wpX_pairs
    dsimp only
    refine xw_doc_f h (br_t rfl ?_)
    unfold wpY_pairs
    dsimp only
    exact yw_doc_f h (br_f (by decide) ⟨rfl, I0⟩)
  rcases pk_ix v1 (n := 8) (by decide) with h | h | ⟨b, hb, rfl⟩
  · exact bad (Or.inl h)
  · exact bad (Or.inr h)
  · unfold wpX_pairs
    dsimp only
    refine xw_doc_t b hb (br_f (by decide) ?_)
    refine ⟨17, xw_pairs_loop hL hT b (N 8) (N b) (by omega) (hA 8 (by omega)) (hA b (by omega)) (hN 8) (hN b) ?_ 16 0 (by omega)⟩
    subst hft
    unfold wpY_pairs
    dsimp only
    refine yw_doc_t b hb (br_t rfl ?_)
    exact ⟨17, yw_pairs_loop T hT b (N 8) (N b) hb hN8 (hN b) (hLn b hb) hLt hQ ⟨rfl, I0⟩ 16 0 (by omega)⟩
end
section
/-! within and nearest -/
def nd_wi (f : Nat → Nat) (v : Int32) : Nat → Nat
  | 0 => 0
  | k + 1 => if v < nI (f k) then nd_wi f v k else nd_wi f v k + 1
theorem nd_wi_t {f : Nat → Nat} {v : Int32} {k : Nat} (h : v < nI (f k)) : nd_wi f v (k + 1) = nd_wi f v k := if_pos h
theorem nd_wi_f {f : Nat → Nat} {v : Int32} {k : Nat} (h : ¬ v < nI (f k)) : nd_wi f v (k + 1) = nd_wi f v k + 1 := if_neg h
theorem xw_wi_loop {post : Int32 → SX → Prop} {aL aN : Nat → Int32} {T N : Nat → Nat} (v : Int32) (hL : ∀ i, i < 144 → aL i = nI (T i)) (hT : ∀ i, T i < 4) (hA : ∀ r, r < 9 → aN r = nI (N r)) (hN : ∀ r, N r ≤ 16)
    (hp : ∀ aC', post (nI (nd_wi (fun b => nd_bl (fun i => T (16 * 8 + i)) (fun i => T (16 * b + i)) (N 8) (N b)) v 8)) (aL, aN, aC')) : ∀ d k aC, k + d = 8 → wX_within_4 post v (d + 1) (nI (nd_wi (fun b => nd_bl (fun i => T (16 * 8 + i)) (fun i => T (16 * b + i)) (N 8) (N b)) v k)) (nI k) aL aN aC := by
  intro d
  induction d with
  | zero =>
    intro k aC hk
    obtain rfl : k = 8 := by omega
    exact pk_le 8 8 (fun _ => hp aC) (fun z => absurd z (by omega))
  | succ d ih =>
    intro k aC hk
    refine pk_le 8 k (fun z => absurd z (by omega)) (fun _ => ?_)
    refine xw_least hL hT k (N 8) (N k) rfl (by omega) (hA 8 (by omega)) (hA k (by omega)) (hN 8) (hN k) (fun aC' => ?_)
    have hk1 := ih (k + 1) aC' (by omega)
    refine br_c (fun z => ?_) (fun z => ?_)
    · rw [nd_wi_t (f := (fun b => nd_bl (fun i => T (16 * 8 + i)) (fun i => T (16 * b + i)) (N 8) (N b))) z] at hk1
      exact nm_r (nI_1 k) hk1
    · rw [nd_wi_f (f := (fun b => nd_bl (fun i => T (16 * 8 + i)) (fun i => T (16 * b + i)) (N 8) (N b))) z] at hk1
      exact nm_r (nI_1 _) (nm_r (nI_1 k) hk1)
theorem yw_wi_loop {post : Int32 → SY → Prop} {aLt aLn aQ : Nat → Int32} {T N : Nat → Nat} (v : Int32) (hT : ∀ i, T i < 4) (hN : ∀ r, N r ≤ 16) (hN8 : N 8 ≤ 8) (hL : ∀ x, x < 128 → aLt x = nI (T x)) (hLn : ∀ r, r < 8 → aLn r = nI (N r)) (hQ : ∀ x, x < 8 → aQ x = nI (T (16 * 8 + x)))
    (hp : ∀ fl fr fe aLf aRt aT, post (nI (nd_wi (fun b => nd_bl (fun i => T (16 * 8 + i)) (fun i => T (16 * b + i)) (N 8) (N b)) v 8)) (nI (N 8), fl, fr, fe, aLt, aLn, aQ, aLf, aRt, aT)) : ∀ d k fl fr fe aLf aRt aT, k + d = 8 → wY_within_4 post v (d + 1) (nI (nd_wi (fun b => nd_bl (fun i => T (16 * 8 + i)) (fun i => T (16 * b + i)) (N 8) (N b)) v k)) (nI k) (nI (N 8)) fl fr fe aLt aLn aQ aLf aRt aT := by
  intro d
  induction d with
  | zero =>
    intro k fl fr fe aLf aRt aT hk
    obtain rfl : k = 8 := by omega
    exact pk_le 8 8 (fun _ => hp fl fr fe aLf aRt aT) (fun z => absurd z (by omega))
  | succ d ih =>
    intro k fl fr fe aLf aRt aT hk
    refine pk_le 8 k (fun z => absurd z (by omega)) (fun _ => ?_)
    refine yw_search T hT k (N 8) (N k) rfl rfl (by omega) hN8 (hN k) (hLn k (by omega)) hL hQ (fun fl' fr' e aLf' aRt' aT' _ => ?_)
    have hk1 := ih (k + 1) fl' fr' (nI e) aLf' aRt' aT' (by omega)
    refine br_c (fun z => ?_) (fun z => ?_)
    · rw [nd_wi_t (f := (fun b => nd_bl (fun i => T (16 * 8 + i)) (fun i => T (16 * b + i)) (N 8) (N b))) z] at hk1
      exact nm_r (nI_1 k) hk1
    · rw [nd_wi_f (f := (fun b => nd_bl (fun i => T (16 * 8 + i)) (fun i => T (16 * b + i)) (N 8) (N b))) z] at hk1
      exact nm_r (nI_1 _) (nm_r (nI_1 k) hk1)
theorem i_vc_within {k : Nat} {u : SX} {v : SY} (I : i_Rel k u v) (hk : k + 3 ≤ 1536) (v1 : Int32) : wpX_within (fun r u' => wpY_within (fun r' v' => r' = r ∧ i_Rel (k + 3) u' v') v v1) u v1 := by
  obtain ⟨aL, aN, aC⟩ := u
  obtain ⟨ft, fl, fr, fe, aLt, aLn, aQ, aLf, aRt, aT⟩ := v
  obtain ⟨T, N, ⟨hT, hN, hN8⟩, ⟨hL, hA⟩, hft, hLt, hLn, hQ⟩ := I
  dsimp only at hL hA hft hLt hLn hQ
  subst hft
  refine ⟨9, xw_wi_loop v1 hL hT hA hN (fun aC' => ?_) 8 0 aC (by omega)⟩
  refine ⟨9, yw_wi_loop v1 hT hN hN8 hLt hLn hQ (fun fl' fr' fe' aLf' aRt' aT' => ?_) 8 0 fl fr fe aLf aRt aT (by omega)⟩
  exact ⟨rfl, nd_mk _ ⟨hT, hN, hN8⟩ ⟨hL, hA⟩ ⟨rfl, hLt, hLn, hQ⟩⟩
def nd_nb (f : Nat → Nat) : Nat → Nat
  | 0 => 0
  | k + 1 => if f (nd_nb f k) ≤ f (k + 1) then nd_nb f k else k + 1
theorem nd_nb_t {f : Nat → Nat} {k : Nat} (h : f (nd_nb f k) ≤ f (k + 1)) : nd_nb f (k + 1) = nd_nb f k := if_pos h
theorem nd_nb_f {f : Nat → Nat} {k : Nat} (h : f (k + 1) < f (nd_nb f k)) : nd_nb f (k + 1) = k + 1 := if_neg (Nat.not_le.mpr h)
theorem xw_nb_loop {post : Int32 → SX → Prop} {aL aN : Nat → Int32} {T N : Nat → Nat} (f : Nat → Nat) (ef : f = (fun b => nd_bl (fun i => T (16 * 8 + i)) (fun i => T (16 * b + i)) (N 8) (N b))) (hL : ∀ i, i < 144 → aL i = nI (T i)) (hT : ∀ i, T i < 4) (hA : ∀ r, r < 9 → aN r = nI (N r)) (hN : ∀ r, N r ≤ 16) (hf : ∀ i, f i ≤ 16)
    (hp : ∀ aC', post (nI (nd_nb f 7)) (aL, aN, aC')) : ∀ d k aC, k + d = 7 → wX_nearest_10 post (d + 1) (nI (nd_nb f k)) (nI (f (nd_nb f k))) (nI (k + 1)) aL aN aC := by
  intro d
  induction d with
  | zero =>
    intro k aC hk
    obtain rfl : k = 7 := by omega
    exact pk_le 8 8 (fun _ => hp aC) (fun z => absurd z (by omega))
  | succ d ih =>
    intro k aC hk
    have b1 := hf (nd_nb f k)
    have b2 := hf (k + 1)
    refine pk_le 8 (k + 1) (fun z => absurd z (by omega)) (fun _ => ?_)
    refine xw_least hL hT (k + 1) (N 8) (N (k + 1)) rfl (by omega) (hA 8 (by omega)) (hA (k + 1) (by omega)) (hN 8) (hN (k + 1)) (fun aC' => ?_)
    have hk1 := ih (k + 1) aC' (by omega)
    have e : nd_bl (fun i => T (16 * 8 + i)) (fun i => T (16 * (k + 1) + i)) (N 8) (N (k + 1)) = f (k + 1) := by rw [ef]
    rw [e]
    refine pk_le (f (nd_nb f k)) (f (k + 1)) (fun z => ?_) (fun z => ?_)
    · rw [nd_nb_t z] at hk1
      exact nm_r (nI_1 (k + 1)) hk1
    · rw [nd_nb_f z] at hk1
      exact nm_r (nI_1 (k + 1)) hk1
theorem yw_nb_loop {post : Int32 → SY → Prop} {aLt aLn aQ : Nat → Int32} {T N : Nat → Nat} (f : Nat → Nat) (ef : f = (fun b => nd_bl (fun i => T (16 * 8 + i)) (fun i => T (16 * b + i)) (N 8) (N b))) (hT : ∀ i, T i < 4) (hN : ∀ r, N r ≤ 16) (hN8 : N 8 ≤ 8) (hL : ∀ x, x < 128 → aLt x = nI (T x)) (hLn : ∀ r, r < 8 → aLn r = nI (N r)) (hQ : ∀ x, x < 8 → aQ x = nI (T (16 * 8 + x))) (hf : ∀ i, f i ≤ 16)
    (hp : ∀ fl fr fe aLf aRt aT, post (nI (nd_nb f 7)) (nI (N 8), fl, fr, fe, aLt, aLn, aQ, aLf, aRt, aT)) : ∀ d k fl fr fe aLf aRt aT, k + d = 7 → wY_nearest_7 post (d + 1) (nI (nd_nb f k)) (nI (f (nd_nb f k))) (nI (k + 1)) (nI (N 8)) fl fr fe aLt aLn aQ aLf aRt aT := by
  intro d
  induction d with
  | zero =>
    intro k fl fr fe aLf aRt aT hk
    obtain rfl : k = 7 := by omega
    exact pk_le 8 8 (fun _ => hp fl fr fe aLf aRt aT) (fun z => absurd z (by omega))
  | succ d ih =>
    intro k fl fr fe aLf aRt aT hk
    have b1 := hf (nd_nb f k)
    have b2 := hf (k + 1)
    refine pk_le 8 (k + 1) (fun z => absurd z (by omega)) (fun _ => ?_)
    refine yw_search T hT (k + 1) (N 8) (N (k + 1)) rfl rfl (by omega) hN8 (hN (k + 1)) (hLn (k + 1) (by omega)) hL hQ (fun fl' fr' e aLf' aRt' aT' _ => ?_)
    have hk1 := ih (k + 1) fl' fr' (nI e) aLf' aRt' aT' (by omega)
    have e : nd_bl (fun i => T (16 * 8 + i)) (fun i => T (16 * (k + 1) + i)) (N 8) (N (k + 1)) = f (k + 1) := by rw [ef]
    rw [e]
    refine pk_le (f (nd_nb f k)) (f (k + 1)) (fun z => ?_) (fun z => ?_)
    · rw [nd_nb_t z] at hk1
      exact nm_r (nI_1 (k + 1)) hk1
    · rw [nd_nb_f z] at hk1
      exact nm_r (nI_1 (k + 1)) hk1
theorem yw_nearest {post : Int32 → SY → Prop} {fl fr fe : Int32} {aLt aLn aQ aLf aRt aT : Nat → Int32} {T N : Nat → Nat} (f : Nat → Nat) (ef : f = (fun b => nd_bl (fun i => T (16 * 8 + i)) (fun i => T (16 * b + i)) (N 8) (N b))) (hT : ∀ i, T i < 4) (hN : ∀ r, N r ≤ 16) (hN8 : N 8 ≤ 8) (hL : ∀ x, x < 128 → aLt x = nI (T x)) (hLn : ∀ r, r < 8 → aLn r = nI (N r)) (hQ : ∀ x, x < 8 → aQ x = nI (T (16 * 8 + x))) (hf : ∀ i, f i ≤ 16)
    (hp : ∀ fl fr fe aLf aRt aT, post (nI (nd_nb f 7)) (nI (N 8), fl, fr, fe, aLt, aLn, aQ, aLf, aRt, aT)) : wpY_nearest post (nI (N 8), fl, fr, fe, aLt, aLn, aQ, aLf, aRt, aT) := by
  have b0 := hf 0
  refine ⟨9, ?_⟩
  refine pk_le 8 0 (fun z => absurd z (by omega)) (fun _ => ?_)
  refine yw_search T hT 0 (N 8) (N 0) rfl rfl (by omega) hN8 (hN 0) (hLn 0 (by omega)) hL hQ (fun fl' fr' e aLf' aRt' aT' _ => ?_)
  have e : nd_bl (fun i => T (16 * 8 + i)) (fun i => T (16 * 0 + i)) (N 8) (N 0) = f 0 := by rw [ef]
  rw [e]
  refine pk_le 100 (f 0) (fun z => absurd z (by omega)) (fun z => ?_)
  exact nm_r (nI_1 0) (yw_nb_loop f ef hT hN hN8 hL hLn hQ hf hp 7 0 _ _ _ _ _ _ (by omega))
theorem i_vc_nearest {k : Nat} {u : SX} {v : SY} (I : i_Rel k u v) (hk : k + 3 ≤ 1536) : wpX_nearest (fun r u' => wpY_nearest (fun r' v' => r' = r ∧ i_Rel (k + 3) u' v') v) u := by
  obtain ⟨aL, aN, aC⟩ := u
  obtain ⟨ft, fl, fr, fe, aLt, aLn, aQ, aLf, aRt, aT⟩ := v
  obtain ⟨T, N, ⟨hT, hN, hN8⟩, ⟨hL, hA⟩, hft, hLt, hLn, hQ⟩ := I
  dsimp only at hL hA hft hLt hLn hQ
  subst hft
  have hf : ∀ i, (fun b => nd_bl (fun i => T (16 * 8 + i)) (fun i => T (16 * b + i)) (N 8) (N b)) i ≤ 16 := fun i => Nat.le_trans (nd_bl_m _ _ _ _) (hN 8)
  unfold wpX_nearest
  dsimp only
  refine xw_least hL hT 0 (N 8) (N 0) rfl (by omega) (hA 8 (by omega)) (hA 0 (by omega)) (hN 8) (hN 0) (fun aC' => ?_)
  refine ⟨8, xw_nb_loop (fun b => nd_bl (fun i => T (16 * 8 + i)) (fun i => T (16 * b + i)) (N 8) (N b)) rfl hL hT hA hN hf (fun aC2 => ?_) 7 0 aC' (by omega)⟩
  refine yw_nearest (fun b => nd_bl (fun i => T (16 * 8 + i)) (fun i => T (16 * b + i)) (N 8) (N b)) rfl hT hN hN8 hLt hLn hQ hf (fun fl' fr' fe' aLf' aRt' aT' => ?_)
  exact ⟨rfl, nd_mk _ ⟨hT, hN, hN8⟩ ⟨hL, hA⟩ ⟨rfl, hLt, hLn, hQ⟩⟩
end
