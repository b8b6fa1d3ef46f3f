/-! within and nearest -/
def nd_wi (f : Nat → Nat) (v : Int32) : Nat → Nat
  | 0 => 0
  | k + 1 => if v < nI (f k) then nd_wi f v k else nd_wi f v k + 1
theorem nd_wi_t {f : Nat → Nat} {v : Int32} {k : Nat} (h : v < nI (f k)) : nd_wi f v (k + 1) = nd_wi f v k := if_pos h
theorem nd_wi_f {f : Nat → Nat} {v : Int32} {k : Nat} (h : ¬ v < nI (f k)) : nd_wi f v (k + 1) = nd_wi f v k + 1 := if_neg h
theorem xw_wi_loop {post : Int32 → SX → Prop} {aL aN : Nat → Int32} {T N : Nat → Nat} (v : Int32) (hL : ∀ i, i < 144 → aL i = nI (T i)) (hT : ∀ i, T i < 4) (hA : ∀ r, r < 9 → aN r = nI (N r)) (hN : ∀ r, N r ≤ 16)
    (hp : ∀ aC', post (nI (nd_wi (fun b => nd_bl (fun i => T (16 * 8 + i)) (fun i => T (16 * b + i)) (N 8) (N b)) v 8)) (aL, aN, aC')) : ∀ d k aC, k + d = 8 → wX_within_4 post v (d + 1) (nI (nd_wi (fun b => nd_bl (fun i => T (16 * 8 + i)) (fun i => T (16 * b + i)) (N 8) (N b)) v k)) (nI k) aL aN aC := by
  intro d
  induction d with
  | zero =>
    intro k aC hk
    obtain rfl : k = 8 := by omega
    exact pk_le 8 8 (fun _ => hp aC) (fun z => absurd z (by omega))
  | succ d ih =>
    intro k aC hk
    refine pk_le 8 k (fun z => absurd z (by omega)) (fun _ => ?_)
    refine xw_least hL hT k (N 8) (N k) rfl (by omega) (hA 8 (by omega)) (hA k (by omega)) (hN 8) (hN k) (fun aC' => ?_)
    have hk1 := ih (k + 1) aC' (by omega)
    refine br_c (fun z => ?_) (fun z => ?_)
    · rw [nd_wi_t (f := (fun b => nd_bl (fun i => T (16 * 8 + i)) (fun i => T (16 * b + i)) (N 8) (N b))) z] at hk1
      exact nm_r (nI_1 k) hk1
    · rw [nd_wi_f (f := (fun b => nd_bl (fun i => T (16 * 8 + i)) (fun i => T (16 * b + i)) (N 8) (N b))) z] at hk1
      exact nm_r (nI_1 _) (nm_r (nI_1 k) hk1)
theorem yw_wi_loop {post : Int32 → SY → Prop} {aLt aLn aQ : Nat → Int32} {T N : Nat → Nat} (v : Int32) (hT : ∀ i, T i < 4) (hN : ∀ r, N r ≤ 16) (hN8 : N 8 ≤ 8) (hL : ∀ x, x < 128 → aLt x = nI (T x)) (hLn : ∀ r, r < 8 → aLn r = nI (N r)) (hQ : ∀ x, x < 8 → aQ x = nI (T (16 * 8 + x)))
    (hp : ∀ fl fr fe aLf aRt aT, post (nI (nd_wi (fun b => nd_bl (fun i => T (16 * 8 + i)) (fun i => T (16 * b + i)) (N 8) (N b)) v 8)) (nI (N 8), fl, fr, fe, aLt, aLn, aQ, aLf, aRt, aT)) : ∀ d k fl fr fe aLf aRt aT, k + d = 8 → wY_within_4 post v (d + 1) (nI (nd_wi (fun b => nd_bl (fun i => T (16 * 8 + i)) (fun i => T (16 * b + i)) (N 8) (N b)) v k)) (nI k) (nI (N 8)) fl fr fe aLt aLn aQ aLf aRt aT := by
  intro d
  induction d with
  | zero =>
    intro k fl fr fe aLf aRt aT hk
    obtain rfl : k = 8 := by omega
    exact pk_le 8 8 (fun _ => hp fl fr fe aLf aRt aT) (fun z => absurd z (by omega))
  | succ d ih =>
    intro k fl fr fe aLf aRt aT hk
    refine pk_le 8 k (fun z => absurd z (by omega)) (fun _ => ?_)
    refine yw_search T hT k (N 8) (N k) rfl rfl (by omega) hN8 (hN k) (hLn k (by omega)) hL hQ (fun fl' fr' e aLf' aRt' aT' _ => ?_)
    have hk1 := ih (k + 1) fl' fr' (nI e) aLf' aRt' aT' (by omega)
    refine br_c (fun z => ?_) (fun z => ?_)
    · rw [nd_wi_t (f := (fun b => nd_bl (fun i => T (16 * 8 + i)) (fun i => T (16 * b + i)) (N 8) (N b))) z] at hk1
      exact nm_r (nI_1 k) hk1
    · rw [nd_wi_f (f := (fun b => nd_bl (fun i => T (16 * 8 + i)) (fun i => T (16 * b + i)) (N 8) (N b))) z] at hk1
      exact nm_r (nI_1 _) (nm_r (nI_1 k) hk1)
theorem i_vc_within {k : Nat} {u : SX} {v : SY} (I : i_Rel k u v) (hk : k + 3 ≤ 1536) (v1 : Int32) : wpX_within (fun r u' => wpY_within (fun r' v' => r' = r ∧ i_Rel (k + 3) u' v') v v1) u v1 := by
  obtain ⟨aL, aN, aC⟩ := u
  obtain ⟨ft, fl, fr, fe, aLt, aLn, aQ, aLf, aRt, aT⟩ := v
  obtain ⟨T, N, ⟨hT, hN, hN8⟩, ⟨hL, hA⟩, hft, hLt, hLn, hQ⟩ := I
  dsimp only at hL hA hft hLt hLn hQ
  subst hft
  refine ⟨9, xw_wi_loop v1 hL hT hA hN (fun aC' => ?_) 8 0 aC (by omega)⟩
  refine ⟨9, yw_wi_loop v1 hT hN hN8 hLt hLn hQ (fun fl' fr' fe' aLf' aRt' aT' => ?_) 8 0 fl fr fe aLf aRt aT (by omega)⟩
  exact ⟨rfl, nd_mk _ ⟨hT, hN, hN8⟩ ⟨hL, hA⟩ ⟨rfl, hLt, hLn, hQ⟩⟩
def nd_nb (f : Nat → Nat) : Nat → Nat
  | 0 => 0
  | k + 1 => if f (nd_nb f k) ≤ f (k + 1) then nd_nb f k else k + 1
theorem nd_nb_t {f : Nat → Nat} {k : Nat} (h : f (nd_nb f k) ≤ f (k + 1)) : nd_nb f (k + 1) = nd_nb f k := if_pos h
theorem nd_nb_f {f : Nat → Nat} {k : Nat} (h : f (k + 1) < f (nd_nb f k)) : nd_nb f (k + 1) = k + 1 := if_neg (Nat.not_le.mpr h)
theorem xw_nb_loop {post : Int32 → SX → Prop} {aL aN : Nat → Int32} {T N : Nat → Nat} (f : Nat → Nat) (ef : f = (fun b => nd_bl (fun i => T (16 * 8 + i)) (fun i => T (16 * b + i)) (N 8) (N b))) (hL : ∀ i, i < 144 → aL i = nI (T i)) (hT : ∀ i, T i < 4) (hA : ∀ r, r < 9 → aN r = nI (N r)) (hN : ∀ r, N r ≤ 16) (hf : ∀ i, f i ≤ 16)
    (hp : ∀ aC', post (nI (nd_nb f 7)) (aL, aN, aC')) : ∀ d k aC, k + d = 7 → wX_nearest_10 post (d + 1) (nI (nd_nb f k)) (nI (f (nd_nb f k))) (nI (k + 1)) aL aN aC := by
  intro d
  induction d with
  | zero =>
    intro k aC hk
    obtain rfl : k = 7 := by omega
    exact pk_le 8 8 (fun _ => hp aC) (fun z => absurd z (by omega))
  | succ d ih =>
    intro k aC hk
    have b1 := hf (nd_nb f k)
    have b2 := hf (k + 1)
    refine pk_le 8 (k + 1) (fun z => absurd z (by omega)) (fun _ => ?_)
    refine xw_least hL hT (k + 1) (N 8) (N (k + 1)) rfl (by omega) (hA 8 (by omega)) (hA (k + 1) (by omega)) (hN 8) (hN (k + 1)) (fun aC' => ?_)
    have hk1 := ih (k + 1) aC' (by omega)
    have e : nd_bl (fun i => T (16 * 8 + i)) (fun i => T (16 * (k + 1) + i)) (N 8) (N (k + 1)) = f (k + 1) := by rw [ef]
    rw [e]
    refine pk_le (f (nd_nb f k)) (f (k + 1)) (fun z => ?_) (fun z => ?_)
    · rw [nd_nb_t z] at hk1
      exact nm_r (nI_1 (k + 1)) hk1
    · rw [nd_nb_f z] at hk1
      exact nm_r (nI_1 (k + 1)) hk1
theorem yw_nb_loop {post : Int32 → SY → Prop} {aLt aLn aQ : Nat → Int32} {T N : Nat → Nat} (f : Nat → Nat) (ef : f = (fun b => nd_bl (fun i => T (16 * 8 + i)) (fun i => T (16 * b + i)) (N 8) (N b))) (hT : ∀ i, T i < 4) (hN : ∀ r, N r ≤ 16) (hN8 : N 8 ≤ 8) (hL : ∀ x, x < 128 → aLt x = nI (T x)) (hLn : ∀ r, r < 8 → aLn r = nI (N r)) (hQ : ∀ x, x < 8 → aQ x = nI (T (16 * 8 + x))) (hf : ∀ i, f i ≤ 16)
    (hp : ∀ fl fr fe aLf aRt aT, post (nI (nd_nb f 7)) (nI (N 8), fl, fr, fe, aLt, aLn, aQ, aLf, aRt, aT)) : ∀ d k fl fr fe aLf aRt aT, k + d = 7 → wY_nearest_7 post (d + 1) (nI (nd_nb f k)) (nI (f (nd_nb f k))) (nI (k + 1)) (nI (N 8)) fl fr fe aLt aLn aQ aLf aRt aT := by
  intro d
  induction d with
  | zero =>
    intro k fl fr fe aLf aRt aT hk
    obtain rfl : k = 7 := by omega
    exact pk_le 8 8 (fun _ => hp fl fr fe aLf aRt aT) (fun z => absurd z (by omega))
  | succ d ih =>
    intro k fl fr fe aLf aRt aT hk
    have b1 := hf (nd_nb f k)
    have b2 := hf (k + 1)
    refine pk_le 8 (k + 1) (fun z => absurd z (by omega)) (fun _ => ?_)
    refine yw_search T hT (k + 1) (N 8) (N (k + 1)) rfl rfl (by omega) hN8 (hN (k + 1)) (hLn (k + 1) (by omega)) hL hQ (fun fl' fr' e aLf' aRt' aT' _ => ?_)
    have hk1 := ih (k + 1) fl' fr' (nI e) aLf' aRt' aT' (by omega)
    have e : nd_bl (fun i => T (16 * 8 + i)) (fun i => T (16 * (k + 1) + i)) (N 8) (N (k + 1)) = f (k + 1) := by rw [ef]
    rw [e]
    refine pk_le (f (nd_nb f k)) (f (k + 1)) (fun z => ?_) (fun z => ?_)
    · rw [nd_nb_t z] at hk1
      exact nm_r (nI_1 (k + 1)) hk1
    · rw [nd_nb_f z] at hk1
      exact nm_r (nI_1 (k + 1)) hk1
theorem yw_nearest {post : Int32 → SY → Prop} {fl fr fe : Int32} {aLt aLn aQ aLf aRt aT : Nat → Int32} {T N : Nat → Nat} (f : Nat → Nat) (ef : f = (fun b => nd_bl (fun i => T (16 * 8 + i)) (fun i => T (16 * b + i)) (N 8) (N b))) (hT : ∀ i, T i < 4) (hN : ∀ r, N r ≤ 16) (hN8 : N 8 ≤ 8) (hL : ∀ x, x < 128 → aLt x = nI (T x)) (hLn : ∀ r, r < 8 → aLn r = nI (N r)) (hQ : ∀ x, x < 8 → aQ x = nI (T (16 * 8 + x))) (hf : ∀ i, f i ≤ 16)
    (hp : ∀ fl fr fe aLf aRt aT, post (nI (nd_nb f 7)) (nI (N 8), fl, fr, fe, aLt, aLn, aQ, aLf, aRt, aT)) : wpY_nearest post (nI (N 8), fl, fr, fe, aLt, aLn, aQ, aLf, aRt, aT) := by
  have b0 := hf 0
  refine ⟨9, ?_⟩
  refine pk_le 8 0 (fun z => absurd z (by omega)) (fun _ => ?_)
  refine yw_search T hT 0 (N 8) (N 0) rfl rfl (by omega) hN8 (hN 0) (hLn 0 (by omega)) hL hQ (fun fl' fr' e aLf' aRt' aT' _ => ?_)
  have e : nd_bl (fun i => T (16 * 8 + i)) (fun i => T (16 * 0 + i)) (N 8) (N 0) = f 0 := by rw [ef]
  rw [e]
  refine pk_le 100 (f 0) (fun z => absurd z (by omega)) (fun z => ?_)
  exact nm_r (nI_1 0) (yw_nb_loop f ef hT hN hN8 hL hLn hQ hf hp 7 0 _ _ _ _ _ _ (by omega))
theorem i_vc_nearest {k : Nat} {u : SX} {v : SY} (I : i_Rel k u v) (hk : k + 3 ≤ 1536) : wpX_nearest (fun r u' => wpY_nearest (fun r' v' => r' = r ∧ i_Rel (k + 3) u' v') v) u := by
  obtain ⟨aL, aN, aC⟩ := u
  obtain ⟨ft, fl, fr, fe, aLt, aLn, aQ, aLf, aRt, aT⟩ := v
  obtain ⟨T, N, ⟨hT, hN, hN8⟩, ⟨hL, hA⟩, hft, hLt, hLn, hQ⟩ := I
  dsimp only at hL hA hft hLt hLn hQ
  subst hft
  have hf : ∀ i, (fun b => nd_bl (fun i => T (16 * 8 + i)) (fun i => T (16 * b + i)) (N 8) (N b)) i ≤ 16 := fun i => Nat.le_trans (nd_bl_m _ _ _ _) (hN 8)
  unfold wpX_nearest
  dsimp only
  refine xw_least hL hT 0 (N 8) (N 0) rfl (by omega) (hA 8 (by omega)) (hA 0 (by omega)) (hN 8) (hN 0) (fun aC' => ?_)
  refine ⟨8, xw_nb_loop (fun b => nd_bl (fun i => T (16 * 8 + i)) (fun i => T (16 * b + i)) (N 8) (N b)) rfl hL hT hA hN hf (fun aC2 => ?_) 7 0 aC' (by omega)⟩
  refine yw_nearest (fun b => nd_bl (fun i => T (16 * 8 + i)) (fun i => T (16 * b + i)) (N 8) (N b)) rfl hT hN hN8 hLt hLn hQ hf (fun fl' fr' fe' aLf' aRt' aT' => ?_)
  exact ⟨rfl, nd_mk _ ⟨hT, hN, hN8⟩ ⟨hL, hA⟩ ⟨rfl, hLt, hLn, hQ⟩⟩
