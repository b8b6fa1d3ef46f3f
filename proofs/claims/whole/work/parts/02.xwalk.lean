/-! the component's own methods, each with a general post -/
theorem xw_lesser {post : Int32 → Prop} {x y : Int32} (a b : Nat) (hx : x = nI a) (hy : y = nI b) (ha : a < 2 ^ 31) (hb : b < 2 ^ 31) (h : post (nI (min a b))) : wpX_lesser post x y := by
  subst hx hy
  refine pk_le b a (fun z => ?_) (fun z => ?_) rfl rfl hb ha
  · rwa [Nat.min_eq_right z] at h
  · rwa [Nat.min_eq_left (Nat.le_of_lt z)] at h
theorem xw_at (r i : Nat) : nI r * 16 + nI i = nI (16 * r + i) := by
  show nI r * nI 16 + nI i = _
  rw [pk_mul, nI_add, Nat.mul_comm]
theorem xw_letter {post : Int32 → Prop} {aL aN aC : Nat → Int32} {T : Nat → Nat} (hL : ∀ i, i < 144 → aL i = nI (T i)) {x y : Int32} (r i : Nat) (hr : r < 9) (hi : i < 16) (hx : x = nI r) (hy : y = nI i) (h : post (nI (T (16 * r + i)))) : wpX_letterAt post (aL, aN, aC) x y := by
  subst hx hy
  unfold wpX_letterAt
  dsimp only
  rw [xw_at, nI_clamp (by omega), hL _ (by omega)]
  exact ⟨vp_in_nI (by omega) (by omega), h⟩
theorem xw_start_loop {post : SX → Prop} {aL aN : Nat → Int32} (n : Nat) (hn : n ≤ 16) (hp : ∀ aC', (∀ j, j ≤ n → aC' j = nI j) → post (aL, aN, aC')) : ∀ d i aC, i + d = n + 1 → (∀ j, j < i → aC j = nI j) → wX_startColumn_9 post (nI n) (d + 1) (nI i) aL aN aC := by
  intro d
  induction d with
  | zero =>
    intro i aC hi hc
    exact pk_lt n i (fun _ => hp aC (fun j hj => hc j (by omega))) (fun z => absurd z (by omega))
  | succ d ih =>
    intro i aC hi hc
    refine pk_lt n i (fun z => absurd z (by omega)) (fun z => ⟨vp_in_nI (by omega) (by omega), ?_⟩)
    intro c ec y ey
    rw [nI_clamp (by omega)] at ec
    subst ey
    rw [nI_1]
    refine ih (i + 1) c (by omega) (fun j hj => ?_)
    rw [ec]
    by_cases zj : j = i
    · subst zj; exact pk_us
    · rw [pk_un zj]; exact hc j (by omega)
theorem xw_start {post : SX → Prop} {aL aN aC : Nat → Int32} {x : Int32} (r n : Nat) (hr : r < 9) (hx : x = nI r) (hN : aN r = nI n) (hn : n ≤ 16) (hp : ∀ aC', (∀ j, j ≤ n → aC' j = nI j) → post (aL, aN, aC')) : wpX_startColumn post (aL, aN, aC) x := by
  subst hx
  refine ⟨vp_in_nI (by omega) (by omega), ?_⟩
  intro y ey
  rw [nI_clamp (by omega), hN] at ey
  subst ey
  exact ⟨n + 1 + 1, xw_start_loop n hn hp (n + 1) 0 aC (by omega) (fun j hj => absurd hj (Nat.not_lt_zero j))⟩
theorem xw_adv_loop {post : SX → Prop} {aL aN : Nat → Int32} {T : Nat → Nat} (hL : ∀ i, i < 144 → aL i = nI (T i)) (hT : ∀ i, T i < 4) (r n c : Nat) (hr : r < 9) (hn : n ≤ 16) (hc : c < 4) (f g : Nat → Nat) (hf : ∀ i, i ≤ n → f i ≤ 1000) (hg : ∀ i, i ≤ n → g i ≤ 1000)
    (hs : ∀ i, i < n → g (i + 1) = min (if T (16 * r + i) = c then f i else f i + 1) (min (f (i + 1)) (g i) + 1))
    (hp : ∀ aC', (∀ j, j ≤ n → aC' j = nI (g j)) → post (aL, aN, aC')) : ∀ d i aC, i + d = n → (∀ j, j ≤ i → aC j = nI (g j)) → (∀ j, i < j → j ≤ n → aC j = nI (f j)) → wX_advanceColumn_26 post (nI r) (nI c) (nI n) (d + 1) (nI (f i)) (nI (i + 1)) aL aN aC := by
  intro d
  induction d with
  | zero =>
    intro i aC hi h1 h2
    exact pk_lt n (i + 1) (fun _ => hp aC (fun j hj => h1 j (by omega))) (fun z => absurd z (by omega))
  | succ d ih =>
    intro i aC hi h1 h2
    have bf := hf i (by omega)
    have bf1 := hf (i + 1) (by omega)
    have bg := hg i (by omega)
    have key : ∀ z0 : Nat, z0 = (if T (16 * r + i) = c then f i else f i + 1) → wX_advanceColumn_64 post (wX_advanceColumn_26 post (nI r) (nI c) (nI n) (d + 1)) (nI r) (nI c) (nI n) (nI (i + 1)) (nI (f (i + 1))) (nI z0) aL aN aC := by
      intro z0 ez
      have bz : z0 ≤ 1001 := by
        rw [ez]
        split <;> omega
      unfold wX_advanceColumn_64
      rw [nI_pred i, nI_clamp (n := i) (by omega), nI_clamp (n := i + 1) (by omega), h1 i (Nat.le_refl _)]
      refine ⟨vp_in_nI (by omega) (by omega), xw_lesser (f (i + 1)) (g i) rfl rfl (by omega) (by omega) ?_⟩
      intro x9 e9
      rw [nI_1] at e9
      refine xw_lesser z0 (min (f (i + 1)) (g i) + 1) rfl e9 (by omega) (by omega) ?_
      refine ⟨vp_in_nI (by omega) (by omega), ?_⟩
      intro a ea y ey
      subst ey
      rw [nI_1]
      have eg : min z0 (min (f (i + 1)) (g i) + 1) = g (i + 1) := by rw [hs i (by omega), ez]
      rw [eg] at ea
      refine ih (i + 1) a (by omega) (fun j hj => ?_) (fun j hj hj2 => ?_)
      · rw [ea]
        by_cases zj : j = i + 1
        · subst zj; exact pk_us
        · rw [pk_un zj]; exact h1 j (by omega)
      · rw [ea, pk_un (by omega)]
        exact h2 j (by omega) hj2
    refine pk_lt n (i + 1) (fun z => absurd z (by omega)) (fun z => ⟨vp_in_nI (by omega) (by omega), ?_⟩)
    intro x7 e7
    rw [nI_clamp (by omega), h2 (i + 1) (by omega) (by omega)] at e7
    subst e7
    refine xw_letter hL r i hr (by omega) rfl (nI_pred i) ?_
    have bT := hT (16 * r + i)
    refine pk_eq (T (16 * r + i)) c (fun z => ?_) (fun z => ?_)
    · exact key (f i) (by rw [if_pos z])
    · rw [nI_1]
      exact key (f i + 1) (by rw [if_neg z])
theorem xw_adv {post : SX → Prop} {aL aN aC : Nat → Int32} {T : Nat → Nat} {x y t : Int32} (hL : ∀ i, i < 144 → aL i = nI (T i)) (hT : ∀ i, T i < 4) (r n c : Nat) (hx : x = nI r) (hy : y = nI c) (hr : r < 9) (hN : aN r = nI n) (hn : n ≤ 16) (hc : c < 4) (f g : Nat → Nat) (ht : t = nI (g 0)) (hf : ∀ i, i ≤ n → f i ≤ 1000) (hg : ∀ i, i ≤ n → g i ≤ 1000)
    (hs : ∀ i, i < n → g (i + 1) = min (if T (16 * r + i) = c then f i else f i + 1) (min (f (i + 1)) (g i) + 1)) (hC : ∀ j, j ≤ n → aC j = nI (f j))
    (hp : ∀ aC', (∀ j, j ≤ n → aC' j = nI (g j)) → post (aL, aN, aC')) : wpX_advanceColumn post (aL, aN, aC) x y t := by
  subst hx hy ht
  refine ⟨vp_in_nI (by omega) (by omega), ?_⟩
  intro x4 e4 x5 e5 a ea
  rw [nI_clamp (by omega), hN] at e4
  rw [hC 0 (by omega)] at e5
  subst e4 e5
  refine ⟨n + 1, xw_adv_loop hL hT r n c hr hn hc f g hf hg hs hp n 0 a (by omega) (fun j hj => ?_) (fun j hj hj2 => ?_)⟩
  · obtain rfl : j = 0 := by omega
    rw [ea]
    exact pk_us
  · rw [ea, pk_un (by omega)]
    exact hC j hj2
theorem xw_row_loop {post : Int32 → SX → Prop} {aL aN : Nat → Int32} {T : Nat → Nat} (hL : ∀ i, i < 144 → aL i = nI (T i)) (hT : ∀ i, T i < 4) (a b na nb : Nat) (ha : a < 9) (hb : b < 9) (hA : aN a = nI na) (hna : na ≤ 16) (hnb : nb ≤ 16)
    (hp : ∀ aC', post (nI (nd_ed (fun i => T (16 * a + i)) (fun i => T (16 * b + i)) nb na)) (aL, aN, aC')) : ∀ d j aC, j + d = nb → (∀ i, i ≤ na → aC i = nI (nd_ed (fun i => T (16 * a + i)) (fun i => T (16 * b + i)) j i)) → wX_rowDistance_15 post (nI a) (nI b) (nI nb) (d + 1) (nI (j + 1)) aL aN aC := by
  intro d
  induction d with
  | zero =>
    intro j aC hj hC
    obtain rfl : j = nb := by omega
    refine pk_lt j (j + 1) (fun _ => ?_) (fun z => absurd z (by omega))
    rw [nI_clamp (by omega), hA, nI_clamp (by omega), hC na (Nat.le_refl _)]
    exact ⟨vp_in_nI (by omega) (by omega), vp_in_nI (by omega) (by omega), hp aC⟩
  | succ d ih =>
    intro j aC hj hC
    refine pk_lt nb (j + 1) (fun z => absurd z (by omega)) (fun _ => ?_)
    refine xw_letter hL b j hb (by omega) rfl (nI_pred j) ?_
    refine xw_adv hL hT a na (T (16 * b + j)) rfl rfl ha hA hna (hT _) (nd_ed (fun i => T (16 * a + i)) (fun i => T (16 * b + i)) j) (nd_ed (fun i => T (16 * a + i)) (fun i => T (16 * b + i)) (j + 1)) rfl (fun i hi => ?_) (fun i hi => ?_) (fun i hi => rfl) hC (fun aC' h' => ?_)
    · exact Nat.le_trans (nd_ed_le _ _ _ _) (by omega)
    · exact Nat.le_trans (nd_ed_le _ _ _ _) (by omega)
    · intro y ey
      subst ey
      rw [nI_1]
      exact ih (j + 1) aC' (by omega) h'
theorem xw_row {post : Int32 → SX → Prop} {aL aN aC : Nat → Int32} {T : Nat → Nat} {x y : Int32} (hL : ∀ i, i < 144 → aL i = nI (T i)) (hT : ∀ i, T i < 4) (a b na nb : Nat) (hx : x = nI a) (hy : y = nI b) (ha : a < 9) (hb : b < 9) (hA : aN a = nI na) (hB : aN b = nI nb) (hna : na ≤ 16) (hnb : nb ≤ 16)
    (hp : ∀ aC', post (nI (nd_ed (fun i => T (16 * a + i)) (fun i => T (16 * b + i)) nb na)) (aL, aN, aC')) : wpX_rowDistance post (aL, aN, aC) x y := by
  subst hx hy
  refine ⟨vp_in_nI (by omega) (by omega), ?_⟩
  intro z ez
  rw [nI_clamp (by omega), hB] at ez
  subst ez
  refine xw_start a na ha rfl hA hna (fun aC' h' => ?_)
  exact ⟨nb + 1, xw_row_loop hL hT a b na nb ha hb hA hna hnb hp nb 0 aC' (by omega) h'⟩
theorem xw_least_loop {post : Int32 → SX → Prop} {aL aN : Nat → Int32} {T : Nat → Nat} (hL : ∀ i, i < 144 → aL i = nI (T i)) (hT : ∀ i, T i < 4) (b m n : Nat) (hb : b < 9) (hA : aN 8 = nI m) (hm : m ≤ 16) (hn : n ≤ 16)
    (hp : ∀ aC', post (nI (nd_bl (fun i => T (16 * 8 + i)) (fun i => T (16 * b + i)) m n)) (aL, aN, aC')) : ∀ d j aC, j + d = n → (∀ i, i ≤ m → aC i = nI (nd_pd (fun i => T (16 * 8 + i)) (fun i => T (16 * b + i)) j i)) → wX_leastPartDistance_32 post (nI b) (nI n) (nI m) (d + 1) (nI (nd_bl (fun i => T (16 * 8 + i)) (fun i => T (16 * b + i)) m j)) (nI (j + 1)) aL aN aC := by
  intro d
  induction d with
  | zero =>
    intro j aC hj hC
    obtain rfl : j = n := by omega
    exact pk_lt j (j + 1) (fun _ => hp aC) (fun z => absurd z (by omega))
  | succ d ih =>
    intro j aC hj hC
    refine pk_lt n (j + 1) (fun z => absurd z (by omega)) (fun _ => ?_)
    refine xw_letter hL b j hb (by omega) rfl (nI_pred j) ?_
    refine xw_adv hL hT 8 m (T (16 * b + j)) rfl rfl (by omega) hA hm (hT _) (nd_pd (fun i => T (16 * 8 + i)) (fun i => T (16 * b + i)) j) (nd_pd (fun i => T (16 * 8 + i)) (fun i => T (16 * b + i)) (j + 1)) rfl (fun i hi => ?_) (fun i hi => ?_) (fun i hi => rfl) hC (fun aC' h' => ?_)
    · exact Nat.le_trans (nd_pd_le _ _ _ _) (by omega)
    · exact Nat.le_trans (nd_pd_le _ _ _ _) (by omega)
    · have b1 := nd_bl_m (fun i => T (16 * 8 + i)) (fun i => T (16 * b + i)) m j
      have b2 := nd_pd_le (fun i => T (16 * 8 + i)) (fun i => T (16 * b + i)) (j + 1) m
      dsimp only
      rw [nI_clamp (n := m) (by omega), h' m (Nat.le_refl _)]
      refine ⟨vp_in_nI (by omega) (by omega), xw_lesser _ _ rfl rfl (Nat.lt_of_le_of_lt b1 (by omega)) (Nat.lt_of_le_of_lt b2 (by omega)) ?_⟩
      intro y ey
      subst ey
      rw [nI_1]
      exact ih (j + 1) aC' (by omega) h'
theorem xw_least {post : Int32 → SX → Prop} {aL aN aC : Nat → Int32} {T : Nat → Nat} {x : Int32} (hL : ∀ i, i < 144 → aL i = nI (T i)) (hT : ∀ i, T i < 4) (b m n : Nat) (hx : x = nI b) (hb : b < 9) (hA : aN 8 = nI m) (hB : aN b = nI n) (hm : m ≤ 16) (hn : n ≤ 16)
    (hp : ∀ aC', post (nI (nd_bl (fun i => T (16 * 8 + i)) (fun i => T (16 * b + i)) m n)) (aL, aN, aC')) : wpX_leastPartDistance post (aL, aN, aC) x := by
  subst hx
  refine ⟨vp_in_nI (by omega) (by omega), ?_⟩
  intro z ez y ey
  rw [nI_clamp (by omega), hB] at ez
  rw [hA] at ey
  subst ez ey
  refine xw_start 8 m (by omega) rfl hA hm (fun aC' h' => ?_)
  refine ⟨vp_in_nI (by omega) (by omega), ?_⟩
  intro w ew
  rw [nI_clamp (by omega), h' m (Nat.le_refl _)] at ew
  subst ew
  exact ⟨n + 1, xw_least_loop hL hT b m n hb hA hm hn hp n 0 aC' (by omega) h'⟩
theorem xw_first_loop {post : Int32 → SX → Prop} {aL aN : Nat → Int32} {T : Nat → Nat} (hL : ∀ i, i < 144 → aL i = nI (T i)) (hT : ∀ i, T i < 4) (b m n l e : Nat) (hb : b < 9) (hA : aN 8 = nI m) (hm : m ≤ 16) (hn : n ≤ 16) (hl : l ≤ 1000)
    (he : nd_Fe (fun i => T (16 * 8 + i)) (fun i => T (16 * b + i)) m n l e)
    (hp : ∀ aC', post (nI e) (aL, aN, aC')) : ∀ d j aC, j + d = n → j ≤ e → (∀ i, i ≤ m → aC i = nI (nd_pd (fun i => T (16 * 8 + i)) (fun i => T (16 * b + i)) j i)) → wX_firstEndWithin_25 post (nI b) (nI l) (nI n) (nI m) (d + 1) (nI j) aL aN aC := by
  obtain ⟨e1, e2, e3⟩ := he
  intro d
  induction d with
  | zero =>
    intro j aC hj hje hC
    obtain rfl : j = e := by omega
    exact pk_le n j (fun _ => hp aC) (fun z => absurd z (by omega))
  | succ d ih =>
    intro j aC hj hje hC
    have bp := nd_pd_le (fun i => T (16 * 8 + i)) (fun i => T (16 * b + i)) j m
    refine pk_le n j (fun z => absurd z (by omega)) (fun _ => ?_)
    rw [nI_clamp (n := m) (by omega), hC m (Nat.le_refl _)]
    refine ⟨vp_in_nI (by omega) (by omega), ?_⟩
    refine pk_le (nd_pd (fun i => T (16 * 8 + i)) (fun i => T (16 * b + i)) j m) l (fun z => ?_) (fun z => ?_) rfl rfl (Nat.lt_of_le_of_lt bp (by omega)) (by omega)
    · rcases Nat.lt_or_ge j e with w | w
      · exact absurd (e3 j w) (Nat.not_lt.mpr z)
      · obtain rfl : j = e := by omega
        exact hp aC
    · have hlt : j < e := by
        rcases Nat.lt_or_ge j e with w | w
        · exact w
        · obtain rfl : j = e := by omega
          exact absurd z (Nat.not_lt.mpr e2)
      refine xw_letter hL b j hb (by omega) rfl rfl ?_
      refine xw_adv hL hT 8 m (T (16 * b + j)) rfl rfl (by omega) hA hm (hT _) (nd_pd (fun i => T (16 * 8 + i)) (fun i => T (16 * b + i)) j) (nd_pd (fun i => T (16 * 8 + i)) (fun i => T (16 * b + i)) (j + 1)) rfl (fun i hi => ?_) (fun i hi => ?_) (fun i hi => rfl) hC (fun aC' h' => ?_)
      · exact Nat.le_trans (nd_pd_le _ _ _ _) (by omega)
      · exact Nat.le_trans (nd_pd_le _ _ _ _) (by omega)
      · intro y ey
        subst ey
        rw [nI_1]
        exact ih (j + 1) aC' (by omega) (by omega) h'
theorem xw_first {post : Int32 → SX → Prop} {aL aN aC : Nat → Int32} {T : Nat → Nat} {x y : Int32} (hL : ∀ i, i < 144 → aL i = nI (T i)) (hT : ∀ i, T i < 4) (b m n l e : Nat) (hx : x = nI b) (hy : y = nI l) (hb : b < 9) (hA : aN 8 = nI m) (hB : aN b = nI n) (hm : m ≤ 16) (hn : n ≤ 16) (hl : l ≤ 1000)
    (he : nd_Fe (fun i => T (16 * 8 + i)) (fun i => T (16 * b + i)) m n l e)
    (hp : ∀ aC', post (nI e) (aL, aN, aC')) : wpX_firstEndWithin post (aL, aN, aC) x y := by
  subst hx hy
  refine ⟨vp_in_nI (by omega) (by omega), ?_⟩
  intro z ez y ey
  rw [nI_clamp (by omega), hB] at ez
  rw [hA] at ey
  subst ez ey
  refine xw_start 8 m (by omega) rfl hA hm (fun aC' h' => ?_)
  exact ⟨n + 1, xw_first_loop hL hT b m n l e hb hA hm hn hl he hp n 0 aC' (by omega) (by omega) h'⟩
