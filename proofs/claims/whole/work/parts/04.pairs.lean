/-! pairs of letters, both sides -/
theorem xw_cp_loop {post : Int32 → Prop} {aL aN aC : Nat → Int32} {T : Nat → Nat} (hL : ∀ i, i < 144 → aL i = nI (T i)) (hT : ∀ i, T i < 4) (b n x : Nat) (hb : b < 9) (hn : n ≤ 16) (hx : x < 16)
    (hp : post (nI (nd_cn (fun i => T (16 * b + i)) x (n - 1)))) : ∀ d k, k + d = n - 1 → wX_countPair_13 post (nI b) (nI x) (nI n) aL aN aC (d + 1) (nI (nd_cn (fun i => T (16 * b + i)) x k)) (nI (k + 1)) := by
  intro d
  induction d with
  | zero =>
    intro k hk
    obtain rfl : k = n - 1 := by omega
    exact pk_le n (n - 1 + 1) (fun _ => hp) (fun z => absurd z (by omega))
  | succ d ih =>
    intro k hk
    refine pk_le n (k + 1) (fun z => absurd z (by omega)) (fun _ => ?_)
    refine xw_letter hL b k hb (by omega) rfl (nI_pred k) ?_
    refine xw_letter hL b (k + 1) hb (by omega) rfl rfl ?_
    have e : nI (T (16 * b + k)) * 4 + nI (T (16 * b + (k + 1))) = nI (T (16 * b + k) * 4 + T (16 * b + (k + 1))) := by
      show _ * nI 4 + _ = _
      rw [pk_mul, nI_add]
    have b1 := hT (16 * b + k)
    have b2 := hT (16 * b + (k + 1))
    have hk1 := ih (k + 1) (by omega)
    refine pk_eq (T (16 * b + k) * 4 + T (16 * b + (k + 1))) x (fun z => ?_) (fun z => ?_) e rfl (by omega) (by omega)
    · rw [nd_cn_t (T := (fun i => T (16 * b + i))) z] at hk1
      exact nm_r (nI_1 _) (nm_r (nI_1 _) hk1)
    · rw [nd_cn_f (T := (fun i => T (16 * b + i))) z] at hk1
      exact nm_r (nI_1 _) hk1
theorem xw_cp {post : Int32 → Prop} {aL aN aC : Nat → Int32} {T : Nat → Nat} {y z : Int32} (hL : ∀ i, i < 144 → aL i = nI (T i)) (hT : ∀ i, T i < 4) (b n x : Nat) (hy : y = nI b) (hz : z = nI x) (hb : b < 9) (hN : aN b = nI n) (hn : n ≤ 16) (hx : x < 16)
    (hp : post (nI (nd_cn (fun i => T (16 * b + i)) x (n - 1)))) : wpX_countPair post (aL, aN, aC) y z := by
  subst hy hz
  refine ⟨vp_in_nI (by omega) (by omega), ?_⟩
  intro w ew
  rw [nI_clamp (by omega), hN] at ew
  subst ew
  exact ⟨n - 1 + 1, xw_cp_loop hL hT b n x hb hn hx hp (n - 1) 0 (by omega)⟩
theorem xw_pairs_loop {post : Int32 → Prop} {aL aN aC : Nat → Int32} {T : Nat → Nat} (hL : ∀ i, i < 144 → aL i = nI (T i)) (hT : ∀ i, T i < 4) (b m n : Nat) (hb : b < 9) (hA : aN 8 = nI m) (hB : aN b = nI n) (hm : m ≤ 16) (hn : n ≤ 16)
    (hp : post (nI (nd_sm (fun x => nd_cn (fun i => T (16 * 8 + i)) x (m - 1)) (fun x => nd_cn (fun i => T (16 * b + i)) x (n - 1)) 16))) : ∀ d k, k + d = 16 → wX_pairs_13 post (nI b) aL aN aC (d + 1) (nI (nd_sm (fun x => nd_cn (fun i => T (16 * 8 + i)) x (m - 1)) (fun x => nd_cn (fun i => T (16 * b + i)) x (n - 1)) k)) (nI k) := by
  intro d
  induction d with
  | zero =>
    intro k hk
    obtain rfl : k = 16 := by omega
    exact pk_le 16 16 (fun _ => hp) (fun z => absurd z (by omega))
  | succ d ih =>
    intro k hk
    have b1 := nd_cn_le (fun i => T (16 * 8 + i)) k (m - 1)
    have b2 := nd_cn_le (fun i => T (16 * b + i)) k (n - 1)
    refine pk_le 16 k (fun z => absurd z (by omega)) (fun _ => ?_)
    refine xw_cp hL hT 8 m k rfl rfl (by omega) hA hm (by omega) ?_
    refine xw_cp hL hT b n k rfl rfl hb hB hn (by omega) ?_
    refine xw_lesser _ _ rfl rfl (Nat.lt_of_le_of_lt b1 (by omega)) (Nat.lt_of_le_of_lt b2 (by omega)) ?_
    exact nm_r (nI_add _ _) (nm_r (nI_1 k) (ih (k + 1) (by omega)))
theorem yw_iq_loop {post : Int32 → Prop} {fl fr fe : Int32} {aLt aLn aQ aLf aRt aT : Nat → Int32} (T : Nat → Nat) (hT : ∀ i, T i < 4) (m x : Nat) (hm : m ≤ 8) (hx : x < 16) (hQ : ∀ x, x < 8 → aQ x = nI (T (16 * 8 + x)))
    (hp : post (nI (nd_cn (fun i => T (16 * 8 + i)) x (m - 1)))) : ∀ d k, k + d = m - 1 → wY_inQuery_5 post (nI (x / 4)) (nI (x % 4)) (nI m) fl fr fe aLt aLn aQ aLf aRt aT (d + 1) (nI (nd_cn (fun i => T (16 * 8 + i)) x k)) (nI k) := by
  intro d
  induction d with
  | zero =>
    intro k hk
    obtain rfl : k = m - 1 := by omega
    exact pk_le m (m - 1 + 1) (fun _ => hp) (fun z => absurd z (by omega)) rfl (nI_1 _)
  | succ d ih =>
    intro k hk
    have b1 := hT (16 * 8 + k)
    have b2 := hT (16 * 8 + (k + 1))
    have hk1 := ih (k + 1) (by omega)
    refine pk_le m (k + 1) (fun z => absurd z (by omega)) (fun _ => ?_) rfl (nI_1 k)
    rw [nI_1 k, nI_clamp (n := k) (by omega), nI_clamp (n := k + 1) (by omega), hQ k (by omega), hQ (k + 1) (by omega)]
    refine ⟨vp_in_nI (by omega) (by omega), pk_eq (T (16 * 8 + k)) (x / 4) (fun z1 => ⟨vp_in_nI (by omega) (by omega), pk_eq (T (16 * 8 + (k + 1))) (x % 4) (fun z2 => ?_) (fun z2 => ?_)⟩) (fun z1 => ?_)⟩
    · rw [nd_cn_t (T := (fun i => T (16 * 8 + i))) (show T (16 * 8 + k) * 4 + T (16 * 8 + (k + 1)) = x by omega)] at hk1
      exact nm_r (nI_1 _) (nm_e hk1)
    · rw [nd_cn_f (T := (fun i => T (16 * 8 + i))) (show ¬ T (16 * 8 + k) * 4 + T (16 * 8 + (k + 1)) = x by omega)] at hk1
      exact nm_e hk1
    · rw [nd_cn_f (T := (fun i => T (16 * 8 + i))) (show ¬ T (16 * 8 + k) * 4 + T (16 * 8 + (k + 1)) = x by omega)] at hk1
      exact nm_e hk1
theorem yw_ix2 (b k : Nat) : 16 * nI b + nI k = nI (16 * b + k) := by
  show nI 16 * nI b + nI k = _
  rw [pk_mul, nI_add]
theorem yw_id_loop {post : Int32 → Prop} {ft fl fr fe : Int32} {aLt aLn aQ aLf aRt aT : Nat → Int32} (T : Nat → Nat) (hT : ∀ i, T i < 4) (b n x : Nat) (hb : b < 8) (hn : n ≤ 16) (hx : x < 16) (hN : aLn b = nI n) (hL : ∀ x, x < 128 → aLt x = nI (T x))
    (hp : post (nI (nd_cn (fun i => T (16 * b + i)) x (n - 1)))) : ∀ d k, k + d = n - 1 → wY_inDoc_6 post (nI b) (nI (x / 4)) (nI (x % 4)) ft fl fr fe aLt aLn aQ aLf aRt aT (d + 1) (nI (nd_cn (fun i => T (16 * b + i)) x k)) (nI k) := by
  intro d
  induction d with
  | zero =>
    intro k hk
    obtain rfl : k = n - 1 := by omega
    refine ⟨vp_in_nI (by omega) (by omega), ?_⟩
    rw [nI_clamp (n := b) (by omega), hN]
    exact pk_le n (n - 1 + 1) (fun _ => hp) (fun z => absurd z (by omega)) rfl (nI_1 _)
  | succ d ih =>
    intro k hk
    have b1 := hT (16 * b + k)
    have b2 := hT (16 * b + (k + 1))
    have hk1 := ih (k + 1) (by omega)
    refine ⟨vp_in_nI (by omega) (by omega), ?_⟩
    rw [nI_clamp (n := b) (by omega), hN]
    refine pk_le n (k + 1) (fun z => absurd z (by omega)) (fun _ => ?_) rfl (nI_1 k)
    rw [yw_ix2, nI_1 (16 * b + k), nI_1 k, nI_clamp (n := 16 * b + k) (by omega), nI_clamp (n := 16 * b + k + 1) (by omega), hL (16 * b + k) (by omega), hL (16 * b + k + 1) (by omega)]
    refine ⟨vp_in_nI (by omega) (by omega), pk_eq (T (16 * b + k)) (x / 4) (fun z1 => ⟨vp_in_nI (by omega) (by omega), pk_eq (T (16 * b + (k + 1))) (x % 4) (fun z2 => ?_) (fun z2 => ?_)⟩) (fun z1 => ?_)⟩
    · rw [nd_cn_t (T := (fun i => T (16 * b + i))) (show T (16 * b + k) * 4 + T (16 * b + (k + 1)) = x by omega)] at hk1
      exact nm_r (nI_1 _) (nm_e hk1)
    · rw [nd_cn_f (T := (fun i => T (16 * b + i))) (show ¬ T (16 * b + k) * 4 + T (16 * b + (k + 1)) = x by omega)] at hk1
      exact nm_e hk1
    · rw [nd_cn_f (T := (fun i => T (16 * b + i))) (show ¬ T (16 * b + k) * 4 + T (16 * b + (k + 1)) = x by omega)] at hk1
      exact nm_e hk1
theorem yw_pairs_loop {post : Int32 → Prop} {fl fr fe : Int32} {aLt aLn aQ aLf aRt aT : Nat → Int32} (T : Nat → Nat) (hT : ∀ i, T i < 4) (b m n : Nat) (hb : b < 8) (hm : m ≤ 8) (hn : n ≤ 16) (hN : aLn b = nI n) (hL : ∀ x, x < 128 → aLt x = nI (T x)) (hQ : ∀ x, x < 8 → aQ x = nI (T (16 * 8 + x)))
    (hp : post (nI (nd_sm (fun x => nd_cn (fun i => T (16 * 8 + i)) x (m - 1)) (fun x => nd_cn (fun i => T (16 * b + i)) x (n - 1)) 16))) : ∀ d k, k + d = 16 → wY_pairs_13 post (nI b) (nI m) fl fr fe aLt aLn aQ aLf aRt aT (d + 1) (nI (nd_sm (fun x => nd_cn (fun i => T (16 * 8 + i)) x (m - 1)) (fun x => nd_cn (fun i => T (16 * b + i)) x (n - 1)) k)) (nI k) := by
  intro d
  induction d with
  | zero =>
    intro k hk
    obtain rfl : k = 16 := by omega
    exact pk_le 16 16 (fun _ => hp) (fun z => absurd z (by omega))
  | succ d ih =>
    intro k hk
    have b1 := nd_cn_le (fun i => T (16 * 8 + i)) k (m - 1)
    have b2 := nd_cn_le (fun i => T (16 * b + i)) k (n - 1)
    have hk1 := ih (k + 1) (by omega)
    have e1 : nI k / 4 = nI (k / 4) := pk_div (d := 4) (by omega) (by omega) (by omega)
    have e2 : nI k - nI (k / 4) * 4 = nI (k % 4) := by rw [← e1]; exact pk_rem (d := 4) (by omega) (by omega) (by omega)
    refine pk_le 16 k (fun z => absurd z (by omega)) (fun _ => ?_)
    rw [e1, e2]
    refine ⟨by decide, by decide, ?_⟩
    refine ⟨m - 1 + 1, yw_iq_loop T hT m k hm (by omega) hQ ?_ (m - 1) 0 (by omega)⟩
    refine ⟨by decide, by decide, ?_⟩
    refine ⟨n - 1 + 1, yw_id_loop T hT b n k hb hn (by omega) hN hL ?_ (n - 1) 0 (by omega)⟩
    have es : nd_sm (fun x => nd_cn (fun i => T (16 * 8 + i)) x (m - 1)) (fun x => nd_cn (fun i => T (16 * b + i)) x (n - 1)) (k + 1) = nd_sm (fun x => nd_cn (fun i => T (16 * 8 + i)) x (m - 1)) (fun x => nd_cn (fun i => T (16 * b + i)) x (n - 1)) k + min (nd_cn (fun i => T (16 * 8 + i)) k (m - 1)) (nd_cn (fun i => T (16 * b + i)) k (n - 1)) := rfl
    rw [es] at hk1
    refine pk_le (nd_cn (fun i => T (16 * b + i)) k (n - 1)) (nd_cn (fun i => T (16 * 8 + i)) k (m - 1)) (fun z => ?_) (fun z => ?_) rfl rfl (Nat.lt_of_le_of_lt b2 (by omega)) (Nat.lt_of_le_of_lt b1 (by omega))
    · rw [Nat.min_eq_right z] at hk1
      exact nm_r (nI_add _ _) (nm_r (nI_1 k) hk1)
    · rw [Nat.min_eq_left (Nat.le_of_lt z)] at hk1
      exact nm_r (nI_add _ _) (nm_r (nI_1 k) hk1)
