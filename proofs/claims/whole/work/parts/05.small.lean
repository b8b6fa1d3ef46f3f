/-! the relation -/
def nd_T (T N : Nat → Nat) : Prop := (∀ i, T i < 4) ∧ (∀ r, N r ≤ 16) ∧ N 8 ≤ 8
def nd_X (T N : Nat → Nat) (aL aN : Nat → Int32) : Prop := (∀ i, i < 144 → aL i = nI (T i)) ∧ (∀ r, r < 9 → aN r = nI (N r))
def nd_Y (T N : Nat → Nat) (ft : Int32) (aLt aLn aQ : Nat → Int32) : Prop := ft = nI (N 8) ∧ (∀ i, i < 128 → aLt i = nI (T i)) ∧ (∀ r, r < 8 → aLn r = nI (N r)) ∧ (∀ i, i < 8 → aQ i = nI (T (16 * 8 + i)))
def i_Rel (k : Nat) (u : SX) (v : SY) : Prop := ∃ T N : Nat → Nat, nd_T T N ∧ nd_X T N u.1 u.2.1 ∧ nd_Y T N v.1 v.2.2.2.2.1 v.2.2.2.2.2.1 v.2.2.2.2.2.2.1
theorem i_up {k : Nat} {u : SX} {v : SY} (h : i_Rel k u v) : i_Rel (k + 3) u v := h
theorem i_vc0 : wpX_init (fun u => wpY_init (fun v => i_Rel 0 u v)) :=
  ⟨fun _ => 0, fun _ => 0, ⟨fun _ => Nat.zero_lt_succ 3, fun _ => Nat.zero_le 16, Nat.zero_le 8⟩, ⟨fun _ _ => rfl, fun _ _ => rfl⟩, ⟨rfl, fun _ _ => rfl, fun _ _ => rfl, fun _ _ => rfl⟩⟩
theorem nd_mk (k : Nat) {T N : Nat → Nat} {aL aN aC : Nat → Int32} {ft fl fr fe : Int32} {aLt aLn aQ aLf aRt aT : Nat → Int32} (h : nd_T T N) (hx : nd_X T N aL aN) (hy : nd_Y T N ft aLt aLn aQ) : i_Rel k (aL, aN, aC) (ft, fl, fr, fe, aLt, aLn, aQ, aLf, aRt, aT) := ⟨T, N, h, hx, hy⟩
def nd_up (f : Nat → Nat) (k x : Nat) : Nat → Nat := fun j => if j = k then x else f j
theorem nd_up_s (f : Nat → Nat) (k x : Nat) : nd_up f k x k = x := if_pos rfl
theorem nd_up_n {f : Nat → Nat} {k x j : Nat} (h : j ≠ k) : nd_up f k x j = f j := if_neg h
theorem nd_up_a {f : Nat → Nat} {a : Nat → Int32} {M : Nat} (k x : Nat) (h : ∀ i, i < M → a i = nI (f i)) : ∀ i, i < M → upd a k (nI x) i = nI (nd_up f k x i) := by
  intro i hi
  by_cases z : i = k
  · subst z
    rw [pk_us, nd_up_s]
  · rw [pk_un z, nd_up_n z]
    exact h i hi
theorem nd_up_le {f : Nat → Nat} {M : Nat} (k x : Nat) (h : ∀ i, f i ≤ M) (hx : x ≤ M) : ∀ i, nd_up f k x i ≤ M := by
  intro i
  by_cases z : i = k
  · subst z
    rwa [nd_up_s]
  · rw [nd_up_n z]
    exact h i
theorem nd_up_lt {f : Nat → Nat} {M : Nat} (k x : Nat) (h : ∀ i, f i < M) (hx : x < M) : ∀ i, nd_up f k x i < M := by
  intro i
  by_cases z : i = k
  · subst z
    rwa [nd_up_s]
  · rw [nd_up_n z]
    exact h i
/-! which numbers are documents -/
theorem xw_doc_t {post : Int32 → Prop} (b : Nat) (hb : b < 8) (h : post 1) : wpX_isDocument post (nI b) := br_f (nI_pos (by omega)) (br_f (nI_ge (b := 8) hb (by decide)) h)
theorem xw_doc_f {post : Int32 → Prop} {x : Int32} (hx : x < 0 ∨ nI 8 ≤ x) (h : post 0) : wpX_isDocument post x := by
  by_cases z : x < 0
  · exact br_t z h
  · exact br_f z (br_t (hx.resolve_left z) h)
theorem yw_doc_t {post : Int32 → Prop} (b : Nat) (hb : b < 8) (h : post 0) : wpY_bad post (nI b) := br_f (nI_pos (by omega)) (br_t (nI_le (b := 7) (by omega) (by decide)) h)
theorem yw_doc_f {post : Int32 → Prop} {x : Int32} (hx : x < 0 ∨ nI 8 ≤ x) (h : post 1) : wpY_bad post x := by
  by_cases z : x < 0
  · exact br_t z h
  · refine br_f z (br_f (fun w => ?_) h)
    have h8 := hx.resolve_left z
    obtain ⟨j, hj, rfl⟩ := nI_of z
    rw [nI_leI (by decide) hj] at h8
    exact nI_ge (a := 7) (b := j) (by omega) hj w
/-! write, wipe, type, clear -/
theorem xw_append {post : Int32 → SX → Prop} {aL aN aC : Nat → Int32} {x z : Int32} (y : Int32) (r n cap : Nat) (hx : x = nI r) (hz : z = nI cap) (hr : r < 9) (hN : aN r = nI n) (hn : n ≤ 16) (hcap : cap ≤ 16)
    (h1 : n < cap → post (nI (n + 1)) (upd aL (16 * r + n) (y &&& 3), upd aN r (nI (n + 1)), aC)) (h2 : cap ≤ n → post (-1) (aL, aN, aC)) : wpX_append post (aL, aN, aC) x y z := by
  subst hx hz
  refine ⟨vp_in_nI (by omega) (by omega), ?_⟩
  intro w ew
  rw [nI_clamp (by omega), hN] at ew
  subst ew
  refine pk_lt n cap (fun hl => ?_) (fun hl => h2 hl)
  rw [xw_at, nI_clamp (n := r) (by omega), nI_clamp (n := 16 * r + n) (by omega), nI_1]
  exact ⟨vp_in_nI (by omega) (by omega), nm_e ⟨vp_in_nI (by omega) (by omega), nm_e (h1 hl)⟩⟩
theorem yw_write {post : Int32 → SY → Prop} {ft fl fr fe : Int32} {aLt aLn aQ aLf aRt aT : Nat → Int32} (y : Int32) (b n : Nat) (hb : b < 8) (hN : aLn b = nI n) (hn : n ≤ 16)
    (h1 : n < 16 → post (nI (n + 1)) (ft, fl, fr, fe, upd aLt (16 * b + n) (y &&& 3), upd aLn b (nI (n + 1)), aQ, aLf, aRt, aT)) (h2 : 16 ≤ n → post (-1) (ft, fl, fr, fe, aLt, aLn, aQ, aLf, aRt, aT)) : wpY_write post (ft, fl, fr, fe, aLt, aLn, aQ, aLf, aRt, aT) (nI b) y := by
  unfold wpY_write
  dsimp only
  refine yw_doc_t b hb (br_t rfl ?_)
  rw [nI_clamp (n := b) (by omega), hN]
  refine ⟨vp_in_nI (by omega) (by omega), pk_eq n 16 (fun z => h2 (by omega)) (fun z => ?_)⟩
  rw [yw_ix2, nI_clamp (n := 16 * b + n) (by omega), nI_1]
  refine ⟨vp_in_nI (by omega) (by omega), vp_in_nI (by omega) (by omega), nm_e ⟨vp_in_nI (by omega) (by omega), vp_in_nI (by omega) (by omega), nm_e ⟨vp_in_nI (by omega) (by omega), ?_⟩⟩⟩
  rw [pk_us]
  exact h1 (by omega)
theorem i_vc_write {k : Nat} {u : SX} {v : SY} (I : i_Rel k u v) (hk : k + 3 ≤ 1536) (v1 : Int32) (v2 : Int32) : wpX_write (fun r u' => wpY_write (fun r' v' => r' = r ∧ i_Rel (k + 3) u' v') v v1 v2) u v1 v2 := by
  obtain ⟨aL, aN, aC⟩ := u
  obtain ⟨ft, fl, fr, fe, aLt, aLn, aQ, aLf, aRt, aT⟩ := v
  have I0 := i_up I
  obtain ⟨T, N, ⟨hT, hN, hN8⟩, ⟨hL, hA⟩, hft, hLt, hLn, hQ⟩ := I
  dsimp only at hL hA hft hLt hLn hQ
  have bad : (v1 < 0 ∨ nI 8 ≤ v1) → wpX_write (fun r u' => wpY_write (fun r' v' => r' = r ∧ i_Rel (k + 3) u' v') (ft, fl, fr, fe, aLt, aLn, aQ, aLf, aRt, aT) v1 v2) (aL, aN, aC) v1 v2 := by
    intro h
    unfold wpX_write
    dsimp only
    refine xw_doc_f h (br_t rfl ?_)
    unfold wpY_write
    dsimp only
    exact yw_doc_f h (br_f (by decide) ⟨rfl, I0⟩)
  rcases pk_ix v1 (n := 8) (by decide) with h | h | ⟨b, hb, rfl⟩
  · exact bad (Or.inl h)
  · exact bad (Or.inr h)
  · unfold wpX_write
    dsimp only
    refine xw_doc_t b hb (br_f (by decide) ?_)
    have hnb := hN b
    refine xw_append v2 b (N b) 16 rfl rfl (by omega) (hA b (by omega)) hnb (by omega) (fun hl => ?_) (fun hl => ?_)
    · refine yw_write v2 b (N b) hb (hLn b hb) hnb (fun _ => ?_) (fun hg => absurd hg (by omega))
      obtain ⟨c, hc, ec⟩ := pk_andE v2 (m := 3) 2 (by decide)
      have hc4 : c < 4 := hc
      rw [ec]
      refine ⟨rfl, nd_mk _ (T := nd_up T (16 * b + N b) c) (N := nd_up N b (N b + 1)) ⟨nd_up_lt _ _ hT hc4, nd_up_le _ _ hN (by omega), ?_⟩ ⟨nd_up_a _ _ hL, nd_up_a _ _ hA⟩ ⟨?_, nd_up_a _ _ hLt, nd_up_a _ _ hLn, fun i hi => ?_⟩⟩
      · rw [nd_up_n (by omega)]
        exact hN8
      · rw [nd_up_n (by omega)]
        exact hft
      · rw [nd_up_n (by omega)]
        exact hQ i hi
    · refine yw_write v2 b (N b) hb (hLn b hb) hnb (fun hg => absurd hg (by omega)) (fun _ => ⟨rfl, I0⟩)
theorem i_vc_wipe {k : Nat} {u : SX} {v : SY} (I : i_Rel k u v) (hk : k + 3 ≤ 1536) (v1 : Int32) : wpX_wipe (fun r u' => wpY_wipe (fun r' v' => r' = r ∧ i_Rel (k + 3) u' v') v v1) u v1 := by
  obtain ⟨aL, aN, aC⟩ := u
  obtain ⟨ft, fl, fr, fe, aLt, aLn, aQ, aLf, aRt, aT⟩ := v
  have I0 := i_up I
  obtain ⟨T, N, ⟨hT, hN, hN8⟩, ⟨hL, hA⟩, hft, hLt, hLn, hQ⟩ := I
  dsimp only at hL hA hft hLt hLn hQ
  have bad : (v1 < 0 ∨ nI 8 ≤ v1) → wpX_wipe (fun r u' => wpY_wipe (fun r' v' => r' = r ∧ i_Rel (k + 3) u' v') (ft, fl, fr, fe, aLt, aLn, aQ, aLf, aRt, aT) v1) (aL, aN, aC) v1 := by
    intro h
    unfold wpX_wipe
    dsimp only
    refine xw_doc_f h (br_t rfl ?_)
    unfold wpY_wipe
    dsimp only
    exact yw_doc_f h (br_f (by decide) ⟨rfl, I0⟩)
  rcases pk_ix v1 (n := 8) (by decide) with h | h | ⟨b, hb, rfl⟩
  · exact bad (Or.inl h)
  · exact bad (Or.inr h)
  · unfold wpX_wipe
    dsimp only
    refine xw_doc_t b hb (br_f (by decide) ?_)
    rw [nI_clamp (n := b) (by omega), hA b (by omega)]
    refine ⟨vp_in_nI (by omega) (by omega), nm_e ⟨vp_in_nI (by omega) (by omega), nm_e ?_⟩⟩
    unfold wpY_wipe
    dsimp only
    refine yw_doc_t b hb (br_t rfl ?_)
    rw [nI_clamp (n := b) (by omega), hLn b hb]
    refine ⟨vp_in_nI (by omega) (by omega), nm_e ⟨vp_in_nI (by omega) (by omega), nm_e ⟨rfl, ?_⟩⟩⟩
    refine nd_mk _ (T := T) (N := nd_up N b 0) ⟨hT, nd_up_le _ _ hN (by omega), ?_⟩ ⟨hL, nd_up_a _ _ hA⟩ ⟨?_, hLt, nd_up_a _ _ hLn, hQ⟩
    · rw [nd_up_n (by omega)]
      exact hN8
    · rw [nd_up_n (by omega)]
      exact hft
theorem i_vc_type {k : Nat} {u : SX} {v : SY} (I : i_Rel k u v) (hk : k + 3 ≤ 1536) (v1 : Int32) : wpX_type (fun r u' => wpY_type (fun r' v' => r' = r ∧ i_Rel (k + 3) u' v') v v1) u v1 := by
  obtain ⟨aL, aN, aC⟩ := u
  obtain ⟨ft, fl, fr, fe, aLt, aLn, aQ, aLf, aRt, aT⟩ := v
  have I0 := i_up I
  obtain ⟨T, N, ⟨hT, hN, hN8⟩, ⟨hL, hA⟩, hft, hLt, hLn, hQ⟩ := I
  dsimp only at hL hA hft hLt hLn hQ
  unfold wpX_type
  dsimp only
  subst hft
  refine xw_append v1 8 (N 8) 8 rfl rfl (by omega) (hA 8 (by omega)) (by omega) (by omega) (fun hl => ?_) (fun hl => ?_)
  · unfold wpY_type
    dsimp only
    refine pk_eq (N 8) 8 (fun z => absurd z (by omega)) (fun z => ?_)
    obtain ⟨c, hc, ec⟩ := pk_andE v1 (m := 3) 2 (by decide)
    have hc4 : c < 4 := hc
    rw [ec, nI_clamp (by omega), nI_1]
    refine ⟨vp_in_nI (by omega) (by omega), nm_e (nm_e ⟨rfl, ?_⟩)⟩
    refine nd_mk _ (T := nd_up T (16 * 8 + N 8) c) (N := nd_up N 8 (N 8 + 1)) ⟨nd_up_lt _ _ hT hc4, nd_up_le _ _ hN (by omega), ?_⟩ ⟨nd_up_a _ _ hL, nd_up_a _ _ hA⟩ ⟨?_, fun i hi => ?_, fun r hr => ?_, fun i hi => ?_⟩
    · rw [nd_up_s]
      omega
    · rw [nd_up_s]
    · rw [nd_up_n (by omega)]
      exact hLt i hi
    · rw [nd_up_n (by omega)]
      exact hLn r hr
    · by_cases zi : i = N 8
      · subst zi
        rw [pk_us, nd_up_s]
      · rw [pk_un zi, nd_up_n (by omega)]
        exact hQ i hi
  · unfold wpY_type
    dsimp only
    exact pk_eq (N 8) 8 (fun z => ⟨rfl, I0⟩) (fun z => absurd z (by omega))
theorem i_vc_clear {k : Nat} {u : SX} {v : SY} (I : i_Rel k u v) (hk : k + 3 ≤ 1536) : wpX_clear (fun u' => wpY_clear (fun v' => i_Rel (k + 3) u' v') v) u := by
  obtain ⟨aL, aN, aC⟩ := u
  obtain ⟨ft, fl, fr, fe, aLt, aLn, aQ, aLf, aRt, aT⟩ := v
  obtain ⟨T, N, ⟨hT, hN, hN8⟩, ⟨hL, hA⟩, hft, hLt, hLn, hQ⟩ := I
  dsimp only at hL hA hft hLt hLn hQ
  refine nm_e ?_
  unfold wpY_clear
  dsimp only
  show i_Rel (k + 3) (aL, upd aN 8 (nI 0), aC) (nI 0, fl, fr, fe, aLt, aLn, aQ, aLf, aRt, aT)
  refine nd_mk _ (T := T) (N := nd_up N 8 0) ⟨hT, nd_up_le _ _ hN (by omega), ?_⟩ ⟨hL, nd_up_a _ _ hA⟩ ⟨?_, hLt, fun r hr => ?_, hQ⟩
  · rw [nd_up_s]
    omega
  · rw [nd_up_s]
  · rw [nd_up_n (by omega)]
    exact hLn r hr
