/-! ===== the class's methods: one lemma for the refused call, one for the accepted ===== -/
section
variable {c : Int32} {cv op st sv ch sl sc dt dc dv : Nat → Int32}
/-! open -/
theorem mx_opl {post : Int32 → SX → Prop} {t : Nat} (ht : t < 4) (h : post 0 (c, cv, op, st, mh_fl sv (8 * t) cv mh_T 8, ch, sl, sc, dt, dc, dv)) : ∀ d i n : Nat, i + d = 8 → d < n → wX_open_62 post (nI t) c n (nI i) cv op st (mh_fl sv (8 * t) cv mh_T i) ch sl sc dt dc dv := by
  intro d
  induction d with
  | zero =>
    intro i n hi hn
    obtain ⟨n, rfl⟩ : ∃ k, n = k + 1 := ⟨n - 1, by omega⟩
    obtain rfl : i = 8 := by omega
    exact br_t mh_e8 h
  | succ d ih =>
    intro i n hi hn
    obtain ⟨n, rfl⟩ : ∃ k, n = k + 1 := ⟨n - 1, by omega⟩
    have g := ih (i + 1) n (by omega) (by omega)
    rw [wX_open_62]
    dsimp only
    rw [mh_ix, nI_clamp (n := i) (by omega), nI_clamp (n := 8 * t + i) (by omega), mh_flS rfl]
    exact br_f (mh_g8 (by omega)) ⟨vp_in_nI (by omega) (by decide), vp_in_nI (by omega) (by decide), nm_e (nm_r (nI_1 i) g)⟩
theorem mx_open_b {post : Int32 → SX → Prop} {p : Int32} (h : p < 0 ∨ 4 ≤ p) (hp : post (-1) (c, cv, op, st, sv, ch, sl, sc, dt, dc, dv)) : wpX_open post (c, cv, op, st, sv, ch, sl, sc, dt, dc, dv) p := by
  unfold wpX_open wpX_isTransaction
  dsimp only
  by_cases h0 : p < 0
  · exact br_t h0 (br_t rfl hp)
  · exact br_f h0 (br_t (h.resolve_left h0) (br_t rfl hp))
theorem mx_open_c {post : Int32 → SX → Prop} {t : Nat} (ht : t < 4) (ho : ¬ op t = 0) (hp : post (-2) (c, cv, op, st, sv, ch, sl, sc, dt, dc, dv)) : wpX_open post (c, cv, op, st, sv, ch, sl, sc, dt, dc, dv) (nI t) := by
  unfold wpX_open wpX_isTransaction
  dsimp only
  rw [nI_clamp (by omega)]
  exact br_f (nI_pos (by omega)) (br_f (mh_g4 ht) (br_f (by decide) ⟨vp_in_nI ht (by decide), br_f ho hp⟩))
theorem mx_open_o {post : Int32 → SX → Prop} {t : Nat} (ht : t < 4) (ho : op t = 0) (hp : post 0 (c, cv, upd op t 1, upd st t c, mh_fl sv (8 * t) cv mh_T 8, upd ch t 0, upd sl t 0, upd sc t 0, dt, dc, dv)) : wpX_open post (c, cv, op, st, sv, ch, sl, sc, dt, dc, dv) (nI t) := by
  unfold wpX_open wpX_isTransaction
  dsimp only
  rw [nI_clamp (by omega), mh_n1]
  have hi : vp_in (nI t) 4 := vp_in_nI ht (by decide)
  have g := mx_opl ht hp 8 0 9 (by omega) (by omega)
  rw [mh_fl0] at g
  exact br_f (nI_pos (by omega)) (br_f (mh_g4 ht) (br_f (by decide) ⟨hi, br_t ho ⟨hi, nm_e ⟨hi, nm_e ⟨hi, nm_e ⟨hi, nm_e ⟨hi, nm_e ⟨9, g⟩⟩⟩⟩⟩⟩⟩))
/-! put, add, drop -/
theorem mx_put_r {post : Int32 → SX → Prop} {p q w : Int32} (h : ¬ mh_pf op ch sl p q = 0) (hp : post (mh_pf op ch sl p q) (c, cv, op, st, sv, ch, sl, sc, dt, dc, dv)) : wpX_put post (c, cv, op, st, sv, ch, sl, sc, dt, dc, dv) p q w := by
  unfold wpX_put
  dsimp only
  refine mx_pf (post := fun r => wX_put_21 post p q w r c cv op st sv ch sl sc dt dc dv) ?_
  unfold wX_put_21
  exact br_f h hp
theorem mx_put_48 {post : Int32 → SX → Prop} {t r : Nat} {w z : Int32} (ht : t < 4) (hr : r < 8) (hp : post z (c, cv, op, upd st t (st t ||| ((1 : Int32) <<< (nI r &&& 31))), upd sv (8 * t + r) w, upd ch t (ch t ||| ((1 : Int32) <<< (nI r &&& 31))), sl, sc, dt, dc, dv)) : wX_put_48 post (nI t) (nI r) w z c cv op st sv ch sl sc dt dc dv := by
  unfold wX_put_48
  have hi : vp_in (nI t) 4 := vp_in_nI ht (by decide)
  rw [mh_ix, nI_clamp (n := t) (by omega), nI_clamp (n := 8 * t + r) (by omega)]
  exact ⟨hi, hi, nm_e ⟨vp_in_nI (by omega) (by decide), nm_e ⟨hi, hi, nm_e hp⟩⟩⟩
theorem mx_put_o {post : Int32 → SX → Prop} {t r : Nat} {w : Int32} (ht : t < 4) (hr : r < 8) (h : mh_pf op ch sl (nI t) (nI r) = 0) (hp : post (if bt (st t) r = true then 1 else 0) (c, cv, op, upd st t (st t ||| ((1 : Int32) <<< (nI r &&& 31))), upd sv (8 * t + r) w, upd ch t (ch t ||| ((1 : Int32) <<< (nI r &&& 31))), sl, sc, dt, dc, dv)) : wpX_put post (c, cv, op, st, sv, ch, sl, sc, dt, dc, dv) (nI t) (nI r) w := by
  unfold wpX_put
  dsimp only
  refine mx_pf (post := fun r' => wX_put_21 post (nI t) (nI r) w r' c cv op st sv ch sl sc dt dc dv) ?_
  unfold wX_put_21
  refine br_t h ⟨vp_in_nI ht (by decide), ?_⟩
  rw [nI_clamp (by omega)]
  refine mx_ct hr (fun hb => ?_) (fun hb => ?_)
  · rw [if_pos hb] at hp; exact br_f (by decide) (mx_put_48 ht hr hp)
  · rw [if_neg (mh_nt hb)] at hp; exact br_t rfl (mx_put_48 ht hr hp)
theorem mx_add_r {post : Int32 → SX → Prop} {p q w : Int32} (h : ¬ mh_ef op st ch sl p q = 0) (hp : post (mh_ef op st ch sl p q) (c, cv, op, st, sv, ch, sl, sc, dt, dc, dv)) : wpX_add post (c, cv, op, st, sv, ch, sl, sc, dt, dc, dv) p q w := by
  unfold wpX_add
  dsimp only
  exact mx_ef (br_f h hp)
theorem mx_add_o {post : Int32 → SX → Prop} {t r : Nat} {w : Int32} (ht : t < 4) (hr : r < 8) (h : mh_ef op st ch sl (nI t) (nI r) = 0) (hp : post 0 (c, cv, op, st, upd sv (8 * t + r) (sv (8 * t + r) + w), upd ch t (ch t ||| ((1 : Int32) <<< (nI r &&& 31))), sl, sc, dt, dc, dv)) : wpX_add post (c, cv, op, st, sv, ch, sl, sc, dt, dc, dv) (nI t) (nI r) w := by
  unfold wpX_add
  dsimp only
  refine mx_ef (br_t h ?_)
  have hi : vp_in (nI t) 4 := vp_in_nI ht (by decide)
  have hj : vp_in (nI (8 * t + r)) 32 := vp_in_nI (by omega) (by decide)
  rw [mh_ix, nI_clamp (n := t) (by omega), nI_clamp (n := 8 * t + r) (by omega)]
  exact ⟨hj, hj, nm_e ⟨hi, hi, nm_e hp⟩⟩
theorem mx_drop_r {post : Int32 → SX → Prop} {p q : Int32} (h : ¬ mh_ef op st ch sl p q = 0) (hp : post (mh_ef op st ch sl p q) (c, cv, op, st, sv, ch, sl, sc, dt, dc, dv)) : wpX_drop post (c, cv, op, st, sv, ch, sl, sc, dt, dc, dv) p q := by
  unfold wpX_drop
  dsimp only
  exact mx_ef (br_f h hp)
theorem mx_drop_o {post : Int32 → SX → Prop} {t r : Nat} (ht : t < 4) (hr : r < 8) (h : mh_ef op st ch sl (nI t) (nI r) = 0) (hp : post 0 (c, cv, op, upd st t (st t &&& (((1 : Int32) <<< (nI r &&& 31)) ^^^ (-1))), sv, upd ch t (ch t ||| ((1 : Int32) <<< (nI r &&& 31))), sl, sc, dt, dc, dv)) : wpX_drop post (c, cv, op, st, sv, ch, sl, sc, dt, dc, dv) (nI t) (nI r) := by
  unfold wpX_drop
  dsimp only
  refine mx_ef (br_t h ?_)
  have hi : vp_in (nI t) 4 := vp_in_nI ht (by decide)
  rw [nI_clamp (n := t) (by omega)]
  exact ⟨hi, hi, nm_e ⟨hi, hi, nm_e hp⟩⟩
/-! get, has, count, sum, find, changed -/
theorem mx_get_r {post : Int32 → Prop} {p q : Int32} (h : ¬ mh_rr op p q = 0) (hp : post 0) : wpX_get post (c, cv, op, st, sv, ch, sl, sc, dt, dc, dv) p q := by
  unfold wpX_get
  dsimp only
  exact mx_rr (br_f h hp)
theorem mx_get_o {post : Int32 → Prop} {t r : Nat} (ht : t < 4) (hr : r < 8) (ho : ¬ op t = 0) (hp : post (if bt (st t) r = true then sv (8 * t + r) else 0)) : wpX_get post (c, cv, op, st, sv, ch, sl, sc, dt, dc, dv) (nI t) (nI r) := by
  unfold wpX_get
  dsimp only
  refine mx_rr (br_t (mh_rrk ht hr ho) ⟨vp_in_nI ht (by decide), ?_⟩)
  rw [mh_ix, nI_clamp (n := t) (by omega), nI_clamp (n := 8 * t + r) (by omega)]
  refine mx_ct hr (fun hb => ?_) (fun hb => ?_)
  · rw [if_pos hb] at hp; exact br_f (by decide) ⟨vp_in_nI (by omega) (by decide), hp⟩
  · rw [if_neg (mh_nt hb)] at hp; exact br_t rfl hp
theorem mx_has_r {post : Int32 → Prop} {p q : Int32} (h : ¬ mh_rr op p q = 0) (hp : post 0) : wpX_has post (c, cv, op, st, sv, ch, sl, sc, dt, dc, dv) p q := by
  unfold wpX_has
  dsimp only
  exact mx_rr (br_f h hp)
theorem mx_has_o {post : Int32 → Prop} {t r : Nat} (ht : t < 4) (hr : r < 8) (ho : ¬ op t = 0) (hp : post (if bt (st t) r = true then 1 else 0)) : wpX_has post (c, cv, op, st, sv, ch, sl, sc, dt, dc, dv) (nI t) (nI r) := by
  unfold wpX_has
  dsimp only
  refine mx_rr (br_t (mh_rrk ht hr ho) ⟨vp_in_nI ht (by decide), ?_⟩)
  rw [nI_clamp (n := t) (by omega)]
  refine mx_ct hr (fun hb => ?_) (fun hb => ?_)
  · rw [if_pos hb] at hp; exact ⟨rfl, hp⟩
  · rw [if_neg (mh_nt hb)] at hp; exact ⟨rfl, hp⟩
theorem mx_count_r {post : Int32 → Prop} {p : Int32} (h : ¬ mh_tr op p = 0) (hp : post (mh_tr op p)) : wpX_count post (c, cv, op, st, sv, ch, sl, sc, dt, dc, dv) p := by
  unfold wpX_count
  dsimp only
  exact mx_tr (br_f h hp)
theorem mx_count_o {post : Int32 → Prop} {t : Nat} (ht : t < 4) (ho : ¬ op t = 0) (hp : post (mh_ct (bt (st t)) 8)) : wpX_count post (c, cv, op, st, sv, ch, sl, sc, dt, dc, dv) (nI t) := by
  unfold wpX_count
  dsimp only
  refine mx_tr (br_t (mh_trk ht ho) ⟨vp_in_nI ht (by decide), ?_⟩)
  rw [nI_clamp (n := t) (by omega)]
  exact mx_sz hp
theorem mx_sml {post : Int32 → Prop} {t : Nat} (ht : t < 4) (h : post (mh_sm (fun r => if bt (st t) r = true then sv (8 * t + r) else 0) 8)) : ∀ d i n : Nat, i + d = 8 → d < n → wX_sum_14 post (nI t) c cv op st sv ch sl sc dt dc dv n (mh_sm (fun r => if bt (st t) r = true then sv (8 * t + r) else 0) i) (nI i) := by
  intro d
  induction d with
  | zero =>
    intro i n hi hn
    obtain ⟨n, rfl⟩ : ∃ k, n = k + 1 := ⟨n - 1, by omega⟩
    obtain rfl : i = 8 := by omega
    exact br_t mh_e8 h
  | succ d ih =>
    intro i n hi hn
    obtain ⟨n, rfl⟩ : ∃ k, n = k + 1 := ⟨n - 1, by omega⟩
    have g := ih (i + 1) n (by omega) (by omega)
    rw [wX_sum_14]
    dsimp only
    rw [mh_ix, nI_clamp (n := t) (by omega), nI_clamp (n := 8 * t + i) (by omega)]
    refine br_f (mh_g8 (by omega)) ⟨vp_in_nI ht (by decide), mx_ct (by omega) (fun hb => ?_) (fun hb => ?_)⟩
    · rw [mh_sm, if_pos hb] at g
      exact br_f (by decide) ⟨vp_in_nI (by omega) (by decide), nm_e (nm_r (nI_1 i) g)⟩
    · rw [mh_sm, if_neg (mh_nt hb), Int32.add_zero] at g
      exact br_t rfl (nm_r (nI_1 i) g)
theorem mx_sum_r {post : Int32 → Prop} {p : Int32} (h : ¬ mh_tr op p = 0) (hp : post 0) : wpX_sum post (c, cv, op, st, sv, ch, sl, sc, dt, dc, dv) p := by
  unfold wpX_sum
  dsimp only
  exact mx_tr (br_f h hp)
theorem mx_sum_o {post : Int32 → Prop} {t : Nat} (ht : t < 4) (ho : ¬ op t = 0) (hp : post (mh_sm (fun r => if bt (st t) r = true then sv (8 * t + r) else 0) 8)) : wpX_sum post (c, cv, op, st, sv, ch, sl, sc, dt, dc, dv) (nI t) := by
  unfold wpX_sum
  dsimp only
  exact mx_tr (br_t (mh_trk ht ho) ⟨9, mx_sml ht hp 8 0 9 (by omega) (by omega)⟩)
theorem mx_fdl {post : Int32 → Prop} {t : Nat} {p q : Int32} (ht : t < 4) : ∀ d i n : Nat, i + d = 8 → d < n → post (mh_fd (bt (st t)) (fun r => sv (8 * t + r)) p q d i) → wX_find_18 post (nI t) p q c cv op st sv ch sl sc dt dc dv n (nI i) := by
  intro d
  induction d with
  | zero =>
    intro i n hi hn h
    obtain ⟨n, rfl⟩ : ∃ k, n = k + 1 := ⟨n - 1, by omega⟩
    obtain rfl : i = 8 := by omega
    exact br_t mh_e8 h
  | succ d ih =>
    intro i n hi hn h
    obtain ⟨n, rfl⟩ : ∃ k, n = k + 1 := ⟨n - 1, by omega⟩
    unfold mh_fd at h
    rw [wX_find_18]
    dsimp only
    rw [mh_ix, nI_clamp (n := t) (by omega), nI_clamp (n := 8 * t + i) (by omega)]
    refine br_f (mh_g8 (by omega)) ?_
    by_cases hf : nI i < p
    · rw [if_pos hf] at h
      exact br_t hf (nm_r (nI_1 i) (ih (i + 1) n (by omega) (by omega) h))
    · rw [if_neg hf] at h
      refine br_f hf ⟨vp_in_nI ht (by decide), mx_ct (by omega) (fun hb => ?_) (fun hb => ?_)⟩
      · rw [if_pos hb] at h
        refine br_f (by decide) ⟨vp_in_nI (by omega) (by decide), ?_⟩
        by_cases hv : sv (8 * t + i) < q
        · rw [if_pos hv] at h
          exact br_t hv (nm_r (nI_1 i) (ih (i + 1) n (by omega) (by omega) h))
        · rw [if_neg hv] at h
          exact br_f hv h
      · rw [if_neg (mh_nt hb)] at h
        exact br_t rfl (nm_r (nI_1 i) (ih (i + 1) n (by omega) (by omega) h))
theorem mx_find_r {post : Int32 → Prop} {p q w : Int32} (h : ¬ mh_tr op p = 0) (hp : post (mh_tr op p)) : wpX_find post (c, cv, op, st, sv, ch, sl, sc, dt, dc, dv) p q w := by
  unfold wpX_find
  dsimp only
  exact mx_tr (br_f h hp)
theorem mx_find_o {post : Int32 → Prop} {t : Nat} {q w : Int32} (ht : t < 4) (ho : ¬ op t = 0) (hp : post (mh_fd (bt (st t)) (fun r => sv (8 * t + r)) q w 8 0)) : wpX_find post (c, cv, op, st, sv, ch, sl, sc, dt, dc, dv) (nI t) q w := by
  unfold wpX_find
  dsimp only
  exact mx_tr (br_t (mh_trk ht ho) ⟨9, mx_fdl ht 8 0 9 (by omega) (by omega) hp⟩)
theorem mx_changed_r {post : Int32 → Prop} {p : Int32} (h : ¬ mh_tr op p = 0) (hp : post (mh_tr op p)) : wpX_changed post (c, cv, op, st, sv, ch, sl, sc, dt, dc, dv) p := by
  unfold wpX_changed
  dsimp only
  exact mx_tr (br_f h hp)
theorem mx_changed_o {post : Int32 → Prop} {t : Nat} (ht : t < 4) (ho : ¬ op t = 0) (hp : post (ch t)) : wpX_changed post (c, cv, op, st, sv, ch, sl, sc, dt, dc, dv) (nI t) := by
  unfold wpX_changed
  dsimp only
  refine mx_tr (br_t (mh_trk ht ho) ⟨vp_in_nI ht (by decide), ?_⟩)
  rw [nI_clamp (n := t) (by omega)]
  exact hp
end
