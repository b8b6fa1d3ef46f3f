/-! distance, end, whole, between, pairs -/
theorem i_vc_distance {k : Nat} {u : SX} {v : SY} (I : i_Rel k u v) (hk : k + 3 ≤ 1536) (v1 : Int32) : wpX_distance (fun r u' => wpY_distance (fun r' v' => r' = r ∧ i_Rel (k + 3) u' v') v v1) u v1 := by
  obtain ⟨aL, aN, aC⟩ := u
  obtain ⟨ft, fl, fr, fe, aLt, aLn, aQ, aLf, aRt, aT⟩ := v
  have I0 := i_up I
  obtain ⟨T, N, ⟨hT, hN, hN8⟩, ⟨hL, hA⟩, hft, hLt, hLn, hQ⟩ := I
  dsimp only at hL hA hft hLt hLn hQ
  have bad : (v1 < 0 ∨ nI 8 ≤ v1) → wpX_distance (fun r u' => wpY_distance (fun r' v' => r' = r ∧ i_Rel (k + 3) u' v') (ft, fl, fr, fe, aLt, aLn, aQ, aLf, aRt, aT) v1) (aL, aN, aC) v1 := by
    intro h
    unfold wpX_distance
    dsimp only
    refine xw_doc_f h (br_t rfl ?_)
    unfold wpY_distance
    dsimp only
    exact yw_doc_f h (br_f (by decide) ⟨rfl, I0⟩)
  rcases pk_ix v1 (n := 8) (by decide) with h | h | ⟨b, hb, rfl⟩
  · exact bad (Or.inl h)
  · exact bad (Or.inr h)
  · unfold wpX_distance
    dsimp only
    refine xw_doc_t b hb (br_f (by decide) ?_)
    refine xw_least hL hT b (N 8) (N b) rfl (by omega) (hA 8 (by omega)) (hA b (by omega)) (hN 8) (hN b) (fun aC' => ?_)
    unfold wpY_distance
    dsimp only
    refine yw_doc_t b hb (br_t rfl ?_)
    refine yw_search T hT b (N 8) (N b) rfl hft hb hN8 (hN b) (hLn b hb) hLt hQ (fun fl' fr' e aLf' aRt' aT' he => ?_)
    exact ⟨rfl, nd_mk _ ⟨hT, hN, hN8⟩ ⟨hL, hA⟩ ⟨rfl, hLt, hLn, hQ⟩⟩
theorem i_vc_end {k : Nat} {u : SX} {v : SY} (I : i_Rel k u v) (hk : k + 3 ≤ 1536) (v1 : Int32) : wpX_end (fun r u' => wpY_end (fun r' v' => r' = r ∧ i_Rel (k + 3) u' v') v v1) u v1 := by
  obtain ⟨aL, aN, aC⟩ := u
  obtain ⟨ft, fl, fr, fe, aLt, aLn, aQ, aLf, aRt, aT⟩ := v
  have I0 := i_up I
  obtain ⟨T, N, ⟨hT, hN, hN8⟩, ⟨hL, hA⟩, hft, hLt, hLn, hQ⟩ := I
  dsimp only at hL hA hft hLt hLn hQ
  have bad : (v1 < 0 ∨ nI 8 ≤ v1) → wpX_end (fun r u' => wpY_end (fun r' v' => r' = r ∧ i_Rel (k + 3) u' v') (ft, fl, fr, fe, aLt, aLn, aQ, aLf, aRt, aT) v1) (aL, aN, aC) v1 := by
    intro h
    unfold wpX_end
    dsimp only
    refine xw_doc_f h (br_t rfl ?_)
    unfold wpY_end
    dsimp only
    exact yw_doc_f h (br_f (by decide) ⟨rfl, I0⟩)
  rcases pk_ix v1 (n := 8) (by decide) with h | h | ⟨b, hb, rfl⟩
  · exact bad (Or.inl h)
  · exact bad (Or.inr h)
  · unfold wpX_end
    dsimp only
    refine xw_doc_t b hb (br_f (by decide) ?_)
    refine xw_least hL hT b (N 8) (N b) rfl (by omega) (hA 8 (by omega)) (hA b (by omega)) (hN 8) (hN b) (fun aC' => ?_)
    obtain ⟨e, he⟩ := nd_Fe_ex (fun i => T (16 * 8 + i)) (fun i => T (16 * b + i)) (N 8) (N b)
    have hbl := nd_bl_m (fun i => T (16 * 8 + i)) (fun i => T (16 * b + i)) (N 8) (N b)
    refine xw_first hL hT b (N 8) (N b) (nd_bl (fun i => T (16 * 8 + i)) (fun i => T (16 * b + i)) (N 8) (N b)) e rfl rfl (by omega) (hA 8 (by omega)) (hA b (by omega)) (hN 8) (hN b) (Nat.le_trans hbl (by omega)) he (fun aC2 => ?_)
    unfold wpY_end
    dsimp only
    refine yw_doc_t b hb (br_t rfl ?_)
    refine yw_search T hT b (N 8) (N b) rfl hft hb hN8 (hN b) (hLn b hb) hLt hQ (fun fl' fr' e' aLf' aRt' aT' he' => ?_)
    refine ⟨?_, nd_mk _ ⟨hT, hN, hN8⟩ ⟨hL, hA⟩ ⟨rfl, hLt, hLn, hQ⟩⟩
    rw [nd_Fe_u he' he]
theorem i_vc_whole {k : Nat} {u : SX} {v : SY} (I : i_Rel k u v) (hk : k + 3 ≤ 1536) (v1 : Int32) : wpX_whole (fun r u' => wpY_whole (fun r' v' => r' = r ∧ i_Rel (k + 3) u' v') v v1) u v1 := by
  obtain ⟨aL, aN, aC⟩ := u
  obtain ⟨ft, fl, fr, fe, aLt, aLn, aQ, aLf, aRt, aT⟩ := v
  have I0 := i_up I
  obtain ⟨T, N, ⟨hT, hN, hN8⟩, ⟨hL, hA⟩, hft, hLt, hLn, hQ⟩ := I
  dsimp only at hL hA hft hLt hLn hQ
  have bad : (v1 < 0 ∨ nI 8 ≤ v1) → wpX_whole (fun r u' => wpY_whole (fun r' v' => r' = r ∧ i_Rel (k + 3) u' v') (ft, fl, fr, fe, aLt, aLn, aQ, aLf, aRt, aT) v1) (aL, aN, aC) v1 := by
    intro h
    unfold wpX_whole
    dsimp only
    refine xw_doc_f h (br_t rfl ?_)
    unfold wpY_whole
    dsimp only
    exact yw_doc_f h (br_f (by decide) ⟨rfl, I0⟩)
  rcases pk_ix v1 (n := 8) (by decide) with h | h | ⟨b, hb, rfl⟩
  · exact bad (Or.inl h)
  · exact bad (Or.inr h)
  · unfold wpX_whole
    dsimp only
    refine xw_doc_t b hb (br_f (by decide) ?_)
    refine xw_row hL hT 8 b (N 8) (N b) rfl rfl (by omega) (by omega) (hA 8 (by omega)) (hA b (by omega)) (hN 8) (hN b) (fun aC' => ?_)
    subst hft
    unfold wpY_whole
    dsimp only
    refine yw_doc_t b hb (br_t rfl ?_)
    refine yw_lq (fl := fl) (fun i => T (16 * 8 + i)) (N 8) hN8 hQ (fun aLf' h1 => ?_)
    refine ⟨vp_in_nI (by omega) (by omega), ?_⟩
    dsimp only
    rw [nI_clamp (by omega), hLn b hb]
    refine yw_lp T b 0 (N b) rfl rfl rfl hb (by omega) (hN b) hLt (fun aRt' h2 => ?_)
    refine yw_cmp (fun i => T (16 * 8 + i)) (fun i => T (16 * b + i)) (fun i => hT _) (fun i => hT _) (N 8) (N b) (hN 8) (hN b) h1 (fun x hx => ?_) (fun aT' => ?_)
    · have h3 := h2 x hx
      rwa [Nat.zero_add] at h3
    · exact ⟨rfl, nd_mk _ ⟨hT, hN, hN8⟩ ⟨hL, hA⟩ ⟨rfl, hLt, hLn, hQ⟩⟩
theorem yw_bt_loop {post : Int32 → SY → Prop} {ft fr fe : Int32} {aLt aLn aQ aRt aT : Nat → Int32} (T : Nat → Nat) (hT : ∀ i, T i < 4) (a b m n : Nat) (ha : a < 8) (hb : b < 8) (hm : m ≤ 16) (hn : n ≤ 16) (hN : aLn b = nI n) (hL : ∀ x, x < 128 → aLt x = nI (T x))
    (hp : ∀ aLf' aRt' aT', post (nI (nd_ed (fun i => T (16 * a + i)) (fun i => T (16 * b + i)) n m)) (ft, nI m, nI n, fe, aLt, aLn, aQ, aLf', aRt', aT')) : ∀ d i aLf, i + d = m → (∀ x, x < i → aLf x = nI (T (16 * a + x))) → wY_between_28 post (nI a) (nI b) ft (nI m) fr fe (d + 1) (nI i) aLt aLn aQ aLf aRt aT := by
  intro d
  induction d with
  | zero =>
    intro i aLf hi h1
    obtain rfl : i = m := by omega
    refine pk_le i i (fun _ => ?_) (fun z => absurd z (by omega))
    refine ⟨vp_in_nI (by omega) (by omega), ?_⟩
    rw [nI_clamp (by omega), hN]
    refine yw_lp T b 0 n rfl rfl rfl hb (by omega) hn hL (fun aRt' h2 => ?_)
    refine yw_cmp (fun i => T (16 * a + i)) (fun i => T (16 * b + i)) (fun i => hT _) (fun i => hT _) i n hm hn h1 (fun x hx => ?_) (fun aT' => ?_)
    · have h3 := h2 x hx
      rwa [Nat.zero_add] at h3
    · exact hp _ _ _
  | succ d ih =>
    intro i aLf hi h1
    refine pk_le m i (fun z => absurd z (by omega)) (fun _ => ?_)
    rw [yw_ix2, nI_clamp (n := i) (by omega), nI_clamp (n := 16 * a + i) (by omega), hL (16 * a + i) (by omega)]
    refine ⟨vp_in_nI (by omega) (by omega), vp_in_nI (by omega) (by omega), nm_e (nm_r (nI_1 i) (ih (i + 1) _ (by omega) (fun x hx => ?_)))⟩
    by_cases zx : x = i
    · subst zx; exact pk_us
    · rw [pk_un zx]; exact h1 x (by omega)
theorem i_vc_between {k : Nat} {u : SX} {v : SY} (I : i_Rel k u v) (hk : k + 3 ≤ 1536) (v1 : Int32) (v2 : Int32) : wpX_between (fun r u' => wpY_between (fun r' v' => r' = r ∧ i_Rel (k + 3) u' v') v v1 v2) u v1 v2 := by
  obtain ⟨aL, aN, aC⟩ := u
  obtain ⟨ft, fl, fr, fe, aLt, aLn, aQ, aLf, aRt, aT⟩ := v
  have I0 := i_up I
  obtain ⟨T, N, ⟨hT, hN, hN8⟩, ⟨hL, hA⟩, hft, hLt, hLn, hQ⟩ := I
  dsimp only at hL hA hft hLt hLn hQ
  have bad : (v1 < 0 ∨ nI 8 ≤ v1) → wpX_between (fun r u' => wpY_between (fun r' v' => r' = r ∧ i_Rel (k + 3) u' v') (ft, fl, fr, fe, aLt, aLn, aQ, aLf, aRt, aT) v1 v2) (aL, aN, aC) v1 v2 := by
    intro h
    unfold wpX_between
    dsimp only
    refine xw_doc_f h (br_t rfl ?_)
    unfold wpY_between
    dsimp only
    exact yw_doc_f h (br_f (by decide) ⟨rfl, I0⟩)
  have bad2 : ∀ a, a < 8 → (v2 < 0 ∨ nI 8 ≤ v2) → wpX_between (fun r u' => wpY_between (fun r' v' => r' = r ∧ i_Rel (k + 3) u' v') (ft, fl, fr, fe, aLt, aLn, aQ, aLf, aRt, aT) (nI a) v2) (aL, aN, aC) (nI a) v2 := by
    intro a ha h
    unfold wpX_between
    dsimp only
    refine xw_doc_t a ha (br_f (by decide) (xw_doc_f h (br_t rfl ?_)))
    unfold wpY_between
    dsimp only
    exact yw_doc_t a ha (br_t rfl (yw_doc_f h (br_f (by decide) ⟨rfl, I0⟩)))
  rcases pk_ix v1 (n := 8) (by decide) with h | h | ⟨a, ha, rfl⟩
  · exact bad (Or.inl h)
  · exact bad (Or.inr h)
  · rcases pk_ix v2 (n := 8) (by decide) with h | h | ⟨b, hb, rfl⟩
    · exact bad2 a ha (Or.inl h)
    · exact bad2 a ha (Or.inr h)
    · unfold wpX_between
      dsimp only
      refine xw_doc_t a ha (br_f (by decide) (xw_doc_t b hb (br_f (by decide) ?_)))
      refine xw_row hL hT a b (N a) (N b) rfl rfl (by omega) (by omega) (hA a (by omega)) (hA b (by omega)) (hN a) (hN b) (fun aC' => ?_)
      unfold wpY_between
      dsimp only
      refine yw_doc_t a ha (br_t rfl (yw_doc_t b hb (br_t rfl ?_)))
      rw [nI_clamp (by omega), hLn a ha]
      refine ⟨vp_in_nI (by omega) (by omega), nm_e ⟨N a + 1, ?_⟩⟩
      refine yw_bt_loop T hT a b (N a) (N b) ha hb (hN a) (hN b) (hLn b hb) hLt (fun aLf' aRt' aT' => ?_) (N a) 0 aLf (by omega) (fun x hx => absurd hx (Nat.not_lt_zero x))
      exact ⟨rfl, nd_mk _ ⟨hT, hN, hN8⟩ ⟨hL, hA⟩ ⟨hft, hLt, hLn, hQ⟩⟩
theorem i_vc_pairs {k : Nat} {u : SX} {v : SY} (I : i_Rel k u v) (hk : k + 3 ≤ 1536) (v1 : Int32) : wpX_pairs (fun r => wpY_pairs (fun r' => r' = r ∧ i_Rel (k + 3) u v) v v1) u v1 := by
  obtain ⟨aL, aN, aC⟩ := u
  obtain ⟨ft, fl, fr, fe, aLt, aLn, aQ, aLf, aRt, aT⟩ := v
  have I0 := i_up I
  obtain ⟨T, N, ⟨hT, hN, hN8⟩, ⟨hL, hA⟩, hft, hLt, hLn, hQ⟩ := I
  dsimp only at hL hA hft hLt hLn hQ
  have bad : (v1 < 0 ∨ nI 8 ≤ v1) → wpX_pairs (fun r => wpY_pairs (fun r' => r' = r ∧ i_Rel (k + 3) (aL, aN, aC) (ft, fl, fr, fe, aLt, aLn, aQ, aLf, aRt, aT)) (ft, fl, fr, fe, aLt, aLn, aQ, aLf, aRt, aT) v1) (aL, aN, aC) v1 := by
    intro h
    unfold wpX_pairs
    dsimp only
    refine xw_doc_f h (br_t rfl ?_)
    unfold wpY_pairs
    dsimp only
    exact yw_doc_f h (br_f (by decide) ⟨rfl, I0⟩)
  rcases pk_ix v1 (n := 8) (by decide) with h | h | ⟨b, hb, rfl⟩
  · exact bad (Or.inl h)
  · exact bad (Or.inr h)
  · unfold wpX_pairs
    dsimp only
    refine xw_doc_t b hb (br_f (by decide) ?_)
    refine ⟨17, xw_pairs_loop hL hT b (N 8) (N b) (by omega) (hA 8 (by omega)) (hA b (by omega)) (hN 8) (hN b) ?_ 16 0 (by omega)⟩
    subst hft
    unfold wpY_pairs
    dsimp only
    refine yw_doc_t b hb (br_t rfl ?_)
    exact ⟨17, yw_pairs_loop T hT b (N 8) (N b) hb hN8 (hN b) (hLn b hb) hLt hQ ⟨rfl, I0⟩ 16 0 (by omega)⟩
