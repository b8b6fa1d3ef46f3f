/-! the reference's own methods, each with a general post -/
theorem yw_c99 {post : Int32 → Prop} {ft fl fr fe : Int32} {aLt aLn aQ aLf aRt aT : Nat → Int32} (a b : Nat) (ha : a < 2 ^ 31) (hb : b < 2 ^ 31) (h : post (nI (min a b))) : wY_cell_99 post (nI a) (nI b) ft fl fr fe aLt aLn aQ aLf aRt aT := by
  refine pk_le b a (fun z => ?_) (fun z => ?_) rfl rfl hb ha
  · rwa [Nat.min_eq_right z] at h
  · rwa [Nat.min_eq_left (Nat.le_of_lt z)] at h
theorem yw_c84 {post : Int32 → Prop} {ft fl fr fe : Int32} {aLt aLn aQ aLf aRt aT : Nat → Int32} {x y z0 z1 : Int32} (o i c : Nat) (hx : x = nI o) (hy : y = nI i) (hc : z1 + z0 = nI c) (ho : o ≤ 1000) (hi : i ≤ 1000) (hcb : c ≤ 1000) (h : post (nI (min c (min o i)))) : wY_cell_84 post x y z0 z1 ft fl fr fe aLt aLn aQ aLf aRt aT := by
  subst hx hy
  intro x5 e5
  rw [hc] at e5
  subst e5
  refine pk_le i o (fun z => ?_) (fun z => ?_)
  · refine yw_c99 c i (by omega) (by omega) ?_
    rwa [Nat.min_eq_right z] at h
  · refine yw_c99 c o (by omega) (by omega) ?_
    rwa [Nat.min_eq_left (Nat.le_of_lt z)] at h
theorem yw_ix (i j : Nat) : 17 * nI i + nI j = nI (17 * i + j) := by
  show nI 17 * nI i + nI j = _
  rw [pk_mul, nI_add]
theorem yw_cell {post : Int32 → Prop} {ft fl fr fe : Int32} {aLt aLn aQ aLf aRt aT : Nat → Int32} (p q : Nat → Nat) (hP : ∀ i, p i < 4) (hQ : ∀ i, q i < 4) (i j : Nat) (hi : i ≤ 16) (hj : j ≤ 16)
    (h : ∀ i' j', i = i' + 1 → j = j' + 1 → aT (17 * i' + (j' + 1)) = nI (nd_ed p q (j' + 1) i') ∧ aT (17 * (i' + 1) + j') = nI (nd_ed p q j' (i' + 1)) ∧ aT (17 * i' + j') = nI (nd_ed p q j' i') ∧ aLf i' = nI (p i') ∧ aRt j' = nI (q j'))
    (hp : post (nI (nd_ed p q j i))) : wpY_cell post (ft, fl, fr, fe, aLt, aLn, aQ, aLf, aRt, aT) (nI i) (nI j) := by
  cases i with
  | zero => refine br_t rfl ?_
            rwa [nd_edt] at hp
  | succ i =>
    cases j with
    | zero => exact br_f (nI_ne0 (by omega) (by omega)) (br_t rfl hp)
    | succ j =>
      obtain ⟨h1, h2, h3, h4, h5⟩ := h i j rfl rfl
      refine br_f (nI_ne0 (by omega) (by omega)) (br_f (nI_ne0 (by omega) (by omega)) ?_)
      have e1 : 17 * (nI (i + 1) - 1) + nI (j + 1) = nI (17 * i + (j + 1)) := by rw [nI_pred, yw_ix]
      have e2 : 17 * nI (i + 1) + nI (j + 1) - 1 = nI (17 * (i + 1) + j) := by rw [yw_ix]; exact nI_pred _
      have e3 : nI (17 * i + (j + 1)) - 1 = nI (17 * i + j) := nI_pred _
      rw [e1, e2, e3, nI_pred, nI_pred, nI_clamp (n := 17 * i + (j + 1)) (by omega), nI_clamp (n := 17 * (i + 1) + j) (by omega), nI_clamp (n := 17 * i + j) (by omega), nI_clamp (n := i) (by omega), nI_clamp (n := j) (by omega), h1, h2, h3, h4, h5, nI_1, nI_1]
      have b1 := nd_ed_le p q (j + 1) i
      have b2 := nd_ed_le p q j (i + 1)
      have b3 := nd_ed_le p q j i
      have bp := hP i
      have bq := hQ j
      refine ⟨vp_in_nI (by omega) (by omega), nm_e ⟨vp_in_nI (by omega) (by omega), nm_e ⟨vp_in_nI (by omega) (by omega), vp_in_nI (by omega) (by omega), vp_in_nI (by omega) (by omega), ?_⟩⟩⟩
      rw [nd_edS] at hp
      refine pk_eq (p i) (q j) (fun z => ?_) (fun z => ?_)
      · rw [if_pos z] at hp
        refine yw_c84 (nd_ed p q (j + 1) i + 1) (nd_ed p q j (i + 1) + 1) (nd_ed p q j i) rfl rfl (Int32.add_zero _) (by omega) (by omega) (by omega) ?_
        have e : min (nd_ed p q (j + 1) i + 1) (nd_ed p q j (i + 1) + 1) = min (nd_ed p q j (i + 1)) (nd_ed p q (j + 1) i) + 1 := by omega
        rwa [e]
      · rw [if_neg z] at hp
        refine yw_c84 (nd_ed p q (j + 1) i + 1) (nd_ed p q j (i + 1) + 1) (nd_ed p q j i + 1) rfl rfl (nI_1 _) (by omega) (by omega) (by omega) ?_
        have e : min (nd_ed p q (j + 1) i + 1) (nd_ed p q j (i + 1) + 1) = min (nd_ed p q j (i + 1)) (nd_ed p q (j + 1) i) + 1 := by omega
        rwa [e]
theorem yw_cmp_in {post : Int32 → SY → Prop} {J2 : Int32 → (Nat → Int32) → (Nat → Int32) → (Nat → Int32) → (Nat → Int32) → (Nat → Int32) → (Nat → Int32) → Prop} {ft fe : Int32} {aLt aLn aQ aLf aRt : Nat → Int32} (p q : Nat → Nat) (hP : ∀ i, p i < 4) (hQ : ∀ i, q i < 4) (m n i : Nat) (hm : m ≤ 16) (hn : n ≤ 16) (hi : i ≤ m) (hLf : ∀ x, x < m → aLf x = nI (p x)) (hRt : ∀ x, x < n → aRt x = nI (q x))
    (hJ : ∀ aT', (∀ x y, x < i + 1 → y ≤ n → aT' (17 * x + y) = nI (nd_ed p q y x)) → J2 (nI (i + 1)) aLt aLn aQ aLf aRt aT') : ∀ d j aT, j + d = n + 1 → (∀ x y, x < i → y ≤ n → aT (17 * x + y) = nI (nd_ed p q y x)) → (∀ y, y < j → aT (17 * i + y) = nI (nd_ed p q y i)) → wY_compared_12 post J2 (nI i) ft (nI m) (nI n) fe (d + 1) (nI j) aLt aLn aQ aLf aRt aT := by
  intro d
  induction d with
  | zero =>
    intro j aT hj h1 h2
    refine pk_lt n j (fun _ => ?_) (fun z => absurd z (by omega))
    refine nm_r (nI_1 i) (hJ aT (fun x y hx hy => ?_))
    rcases Nat.lt_or_ge x i with z | z
    · exact h1 x y z hy
    · obtain rfl : x = i := by omega
      exact h2 y (by omega)
  | succ d ih =>
    intro j aT hj h1 h2
    refine pk_lt n j (fun z => absurd z (by omega)) (fun _ => ?_)
    refine yw_cell p q hP hQ i j (by omega) (by omega) (fun x y ex ey => ?_) ?_
    · subst ex ey
      exact ⟨h1 x (y + 1) (by omega) (by omega), h2 y (by omega), h1 x y (by omega) (by omega), hLf x (by omega), hRt y (by omega)⟩
    · rw [yw_ix, nI_clamp (by omega)]
      refine ⟨vp_in_nI (by omega) (by omega), ?_⟩
      refine nm_e (nm_r (nI_1 j) (ih (j + 1) _ (by omega) (fun x y hx hy => ?_) (fun y hy => ?_)))
      · rw [pk_un (by omega)]
        exact h1 x y hx hy
      · by_cases zy : y = j
        · subst zy; exact pk_us
        · rw [pk_un (by omega)]
          exact h2 y (by omega)
theorem yw_cmp_out {post : Int32 → SY → Prop} {ft fe : Int32} {aLt aLn aQ aLf aRt : Nat → Int32} (p q : Nat → Nat) (hP : ∀ i, p i < 4) (hQ : ∀ i, q i < 4) (m n : Nat) (hm : m ≤ 16) (hn : n ≤ 16) (hLf : ∀ x, x < m → aLf x = nI (p x)) (hRt : ∀ x, x < n → aRt x = nI (q x))
    (hp : ∀ aT', post (nI (nd_ed p q n m)) (ft, nI m, nI n, fe, aLt, aLn, aQ, aLf, aRt, aT')) : ∀ d i aT, i + d = m + 1 → (∀ x y, x < i → y ≤ n → aT (17 * x + y) = nI (nd_ed p q y x)) → wY_compared_2 post ft (nI m) (nI n) fe (d + 1) (nI i) aLt aLn aQ aLf aRt aT := by
  intro d
  induction d with
  | zero =>
    intro i aT hi h1
    refine pk_lt m i (fun _ => ?_) (fun z => absurd z (by omega))
    rw [yw_ix, nI_clamp (by omega), h1 m n (by omega) (Nat.le_refl _)]
    exact ⟨vp_in_nI (by omega) (by omega), hp aT⟩
  | succ d ih =>
    intro i aT hi h1
    refine pk_lt m i (fun z => absurd z (by omega)) (fun _ => ⟨n + 1 + 1, ?_⟩)
    exact yw_cmp_in p q hP hQ m n i hm hn (by omega) hLf hRt (fun aT' h' => ih (i + 1) aT' (by omega) h') (n + 1) 0 aT (by omega) h1 (fun y hy => absurd hy (Nat.not_lt_zero y))
theorem yw_cmp {post : Int32 → SY → Prop} {ft fe : Int32} {aLt aLn aQ aLf aRt aT : Nat → Int32} (p q : Nat → Nat) (hP : ∀ i, p i < 4) (hQ : ∀ i, q i < 4) (m n : Nat) (hm : m ≤ 16) (hn : n ≤ 16) (hLf : ∀ x, x < m → aLf x = nI (p x)) (hRt : ∀ x, x < n → aRt x = nI (q x))
    (hp : ∀ aT', post (nI (nd_ed p q n m)) (ft, nI m, nI n, fe, aLt, aLn, aQ, aLf, aRt, aT')) : wpY_compared post (ft, nI m, nI n, fe, aLt, aLn, aQ, aLf, aRt, aT) :=
  ⟨m + 1 + 1, yw_cmp_out p q hP hQ m n hm hn hLf hRt hp (m + 1) 0 aT (by omega) (fun x y hx => absurd hx (Nat.not_lt_zero x))⟩
theorem yw_lq_loop {post : SY → Prop} {fl fr fe : Int32} {aLt aLn aQ aRt aT : Nat → Int32} (p : Nat → Nat) (m : Nat) (hm : m ≤ 8) (hQ : ∀ x, x < 8 → aQ x = nI (p x))
    (hp : ∀ aLf', (∀ x, x < m → aLf' x = nI (p x)) → post (nI m, fl, fr, fe, aLt, aLn, aQ, aLf', aRt, aT)) : ∀ d i aLf, i + d = m → (∀ x, x < i → aLf x = nI (p x)) → wY_layQuery_10 post (nI m) fl fr fe (d + 1) (nI i) aLt aLn aQ aLf aRt aT := by
  intro d
  induction d with
  | zero =>
    intro i aLf hi h1
    exact pk_le m i (fun _ => hp aLf (fun x hx => h1 x (by omega))) (fun z => absurd z (by omega))
  | succ d ih =>
    intro i aLf hi h1
    refine pk_le m i (fun z => absurd z (by omega)) (fun _ => ?_)
    rw [nI_clamp (by omega), hQ i (by omega)]
    refine ⟨vp_in_nI (by omega) (by omega), vp_in_nI (by omega) (by omega), nm_e (nm_r (nI_1 i) (ih (i + 1) _ (by omega) (fun x hx => ?_)))⟩
    by_cases zx : x = i
    · subst zx; exact pk_us
    · rw [pk_un zx]; exact h1 x (by omega)
theorem yw_lq {post : SY → Prop} {fl fr fe : Int32} {aLt aLn aQ aLf aRt aT : Nat → Int32} (p : Nat → Nat) (m : Nat) (hm : m ≤ 8) (hQ : ∀ x, x < 8 → aQ x = nI (p x))
    (hp : ∀ aLf', (∀ x, x < m → aLf' x = nI (p x)) → post (nI m, nI m, fr, fe, aLt, aLn, aQ, aLf', aRt, aT)) : wpY_layQuery post (nI m, fl, fr, fe, aLt, aLn, aQ, aLf, aRt, aT) :=
  ⟨m + 1, yw_lq_loop p m hm hQ hp m 0 aLf (by omega) (fun x hx => absurd hx (Nat.not_lt_zero x))⟩
theorem yw_ix3 (b f i : Nat) : 16 * nI b + nI f + nI i = nI (16 * b + (f + i)) := by
  show nI 16 * nI b + nI f + nI i = _
  rw [pk_mul, nI_add, nI_add, Nat.add_assoc]
theorem yw_lp_loop {post : SY → Prop} {ft fl fe : Int32} {aLt aLn aQ aLf aT : Nat → Int32} (T : Nat → Nat) (b f k : Nat) (hb : b < 8) (hk : f + k ≤ 16) (hL : ∀ x, x < 128 → aLt x = nI (T x))
    (hp : ∀ aRt', (∀ x, x < k → aRt' x = nI (T (16 * b + (f + x)))) → post (ft, fl, nI k, fe, aLt, aLn, aQ, aLf, aRt', aT)) : ∀ d i aRt, i + d = k → (∀ x, x < i → aRt x = nI (T (16 * b + (f + x)))) → wY_layPart_10 post (nI b) (nI f) ft fl (nI k) fe (d + 1) (nI i) aLt aLn aQ aLf aRt aT := by
  intro d
  induction d with
  | zero =>
    intro i aRt hi h1
    exact pk_le k i (fun _ => hp aRt (fun x hx => h1 x (by omega))) (fun z => absurd z (by omega))
  | succ d ih =>
    intro i aRt hi h1
    refine pk_le k i (fun z => absurd z (by omega)) (fun _ => ?_)
    rw [yw_ix3, nI_clamp (n := i) (by omega), nI_clamp (n := 16 * b + (f + i)) (by omega), hL (16 * b + (f + i)) (by omega)]
    refine ⟨vp_in_nI (by omega) (by omega), vp_in_nI (by omega) (by omega), nm_e (nm_r (nI_1 i) (ih (i + 1) _ (by omega) (fun x hx => ?_)))⟩
    by_cases zx : x = i
    · subst zx; exact pk_us
    · rw [pk_un zx]; exact h1 x (by omega)
theorem yw_lp {post : SY → Prop} {ft fl fr fe : Int32} {aLt aLn aQ aLf aRt aT : Nat → Int32} {x y z : Int32} (T : Nat → Nat) (b f t : Nat) (hx : x = nI b) (hy : y = nI f) (hz : z = nI t) (hb : b < 8) (hf : f ≤ t) (ht : t ≤ 16) (hL : ∀ x, x < 128 → aLt x = nI (T x))
    (hp : ∀ aRt', (∀ x, x < t - f → aRt' x = nI (T (16 * b + (f + x)))) → post (ft, fl, nI (t - f), fe, aLt, aLn, aQ, aLf, aRt', aT)) : wpY_layPart post (ft, fl, fr, fe, aLt, aLn, aQ, aLf, aRt, aT) x y z := by
  subst hx hy hz
  exact nm_r (pk_sub hf) ⟨t - f + 1, yw_lp_loop T b f (t - f) hb (by omega) hL hp (t - f) 0 aRt (by omega) (fun x hx => absurd hx (Nat.not_lt_zero x))⟩
theorem yw_se_in {post : Int32 → SY → Prop} {J14 : Int32 → Int32 → Int32 → Int32 → Int32 → Int32 → (Nat → Int32) → (Nat → Int32) → (Nat → Int32) → (Nat → Int32) → (Nat → Int32) → (Nat → Int32) → Prop} {ft : Int32} {aLt aLn aQ aLf : Nat → Int32} (T : Nat → Nat) (hT : ∀ i, T i < 4) (b m t l0 e0 : Nat) (hb : b < 8) (hm : m ≤ 16) (ht : t ≤ 16) (hl0 : l0 ≤ 100) (hL : ∀ x, x < 128 → aLt x = nI (T x)) (hLf : ∀ x, x < m → aLf x = nI (T (16 * 8 + x)))
    (hJ : ∀ l e fr aRt aT, nd_In (fun i => T (16 * 8 + i)) (fun i => T (16 * b + i)) m t l0 e0 (t + 1) l e → J14 (nI l) (nI (t + 1)) ft (nI m) fr (nI e) aLt aLn aQ aLf aRt aT) : ∀ d f l e fr aRt aT, f + d = t + 1 → nd_In (fun i => T (16 * 8 + i)) (fun i => T (16 * b + i)) m t l0 e0 f l e → wY_search_27 post J14 (nI b) (nI t) (d + 1) (nI l) (nI f) ft (nI m) fr (nI e) aLt aLn aQ aLf aRt aT := by
  intro d
  induction d with
  | zero =>
    intro f l e fr aRt aT hf hI
    obtain rfl : f = t + 1 := by omega
    refine pk_lt t (t + 1) (fun _ => ?_) (fun z => absurd z (by omega))
    exact nm_r (nI_1 t) (hJ l e fr aRt aT hI)
  | succ d ih =>
    intro f l e fr aRt aT hf hI
    refine pk_lt t f (fun z => absurd z (by omega)) (fun _ => ?_)
    refine yw_lp T b f t rfl rfl rfl hb (by omega) ht hL (fun aRt' h' => ?_)
    refine yw_cmp (fun i => T (16 * 8 + i)) (fun x => (fun i => T (16 * b + i)) (f + x)) (fun i => hT _) (fun i => hT _) m (t - f) hm (by omega) hLf h' (fun aT' => ?_)
    have bl : l ≤ 100 := by
      rcases hI.2 with ⟨w, _⟩ | ⟨w, _⟩ <;> omega
    have be : nd_e (fun i => T (16 * 8 + i)) (fun i => T (16 * b + i)) m t f ≤ 32 := Nat.le_trans (nd_ed_le _ _ _ _) (by omega)
    refine pk_le l (nd_e (fun i => T (16 * 8 + i)) (fun i => T (16 * b + i)) m t f) (fun z => ?_) (fun z => ?_)
    · exact nm_r (nI_1 f) (ih (f + 1) l e _ aRt' aT' (by omega) (nd_In_k hI z))
    · exact nm_r (nI_1 f) (ih (f + 1) (nd_e (fun i => T (16 * 8 + i)) (fun i => T (16 * b + i)) m t f) t _ aRt' aT' (by omega) (nd_In_n hI z))
theorem yw_se_out {post : Int32 → SY → Prop} {ft : Int32} {aLt aLn aQ aLf : Nat → Int32} (T : Nat → Nat) (hT : ∀ i, T i < 4) (b m n : Nat) (hb : b < 8) (hm : m ≤ 16) (hn : n ≤ 16) (hN : aLn b = nI n) (hL : ∀ x, x < 128 → aLt x = nI (T x)) (hLf : ∀ x, x < m → aLf x = nI (T (16 * 8 + x)))
    (hp : ∀ l e fr aRt aT, nd_Out (fun i => T (16 * 8 + i)) (fun i => T (16 * b + i)) m (n + 1) l e → post (nI l) (ft, nI m, fr, nI e, aLt, aLn, aQ, aLf, aRt, aT)) : ∀ d t l e fr aRt aT, t + d = n + 1 → nd_Out (fun i => T (16 * 8 + i)) (fun i => T (16 * b + i)) m t l e → wY_search_14 post (nI b) (d + 1) (nI l) (nI t) ft (nI m) fr (nI e) aLt aLn aQ aLf aRt aT := by
  intro d
  induction d with
  | zero =>
    intro t l e fr aRt aT ht hO
    obtain rfl : t = n + 1 := by omega
    refine ⟨vp_in_nI (by omega) (by omega), ?_⟩
    rw [nI_clamp (by omega), hN]
    exact pk_lt n (n + 1) (fun _ => hp l e fr aRt aT hO) (fun z => absurd z (by omega))
  | succ d ih =>
    intro t l e fr aRt aT ht hO
    have hb2 := nd_Out_l hO hm
    refine ⟨vp_in_nI (by omega) (by omega), ?_⟩
    rw [nI_clamp (by omega), hN]
    refine pk_lt n t (fun z => absurd z (by omega)) (fun _ => ⟨t + 1 + 1, ?_⟩)
    exact yw_se_in T hT b m t l e hb hm (by omega) hb2.1 hL hLf (fun l' e' fr' aRt' aT' hI => ih (t + 1) l' e' fr' aRt' aT' (by omega) (nd_Out_s hO hm hI)) (t + 1) 0 l e fr aRt aT (by omega) (nd_In_0 _ _ m t l e)
theorem yw_search {post : Int32 → SY → Prop} {ft fl fr fe : Int32} {aLt aLn aQ aLf aRt aT : Nat → Int32} {x : Int32} (T : Nat → Nat) (hT : ∀ i, T i < 4) (b m n : Nat) (hx : x = nI b) (hft : ft = nI m) (hb : b < 8) (hm : m ≤ 8) (hn : n ≤ 16) (hN : aLn b = nI n) (hL : ∀ x, x < 128 → aLt x = nI (T x)) (hQ : ∀ x, x < 8 → aQ x = nI (T (16 * 8 + x)))
    (hp : ∀ fl fr e aLf aRt aT, nd_Fe (fun i => T (16 * 8 + i)) (fun i => T (16 * b + i)) m n (nd_bl (fun i => T (16 * 8 + i)) (fun i => T (16 * b + i)) m n) e → post (nI (nd_bl (fun i => T (16 * 8 + i)) (fun i => T (16 * b + i)) m n)) (nI m, fl, fr, nI e, aLt, aLn, aQ, aLf, aRt, aT)) : wpY_search post (ft, fl, fr, fe, aLt, aLn, aQ, aLf, aRt, aT) x := by
  subst hx hft
  refine yw_lq (fl := fl) (fun i => T (16 * 8 + i)) m hm hQ (fun aLf' h' => ⟨n + 1 + 1, ?_⟩)
  refine yw_se_out T hT b m n hb (by omega) hn hN hL h' (fun l e fr' aRt' aT' hO => ?_) (n + 1) 0 100 0 fr aRt aT (by omega) (nd_Out_0 _ _ m)
  rcases hO with ⟨w, _⟩ | ⟨s, ws, wl, wf⟩
  · exact absurd w (by omega)
  · obtain rfl : s = n := by omega
    subst wl
    exact hp _ _ _ _ _ _ wf
