/-! ===== the class's methods, the rest ===== -/
section
variable {c : Int32} {cv op st sv ch sl sc dt dc dv : Nat → Int32}
/-! save -/
theorem mx_svl {post : Int32 → SX → Prop} {t j : Nat} {x : Int32} (ht : t < 4) (hj : j < 12) (h : post (x + 1) (c, cv, op, st, sv, ch, sl, upd sc t (x + 1), dt, dc, mh_fl dv (8 * j) (fun r => sv (8 * t + r)) mh_T 8)) : ∀ d i n : Nat, i + d = 8 → d < n → wX_save_63 post (nI t) x (nI j) c n (nI i) cv op st sv ch sl sc dt dc (mh_fl dv (8 * j) (fun r => sv (8 * t + r)) mh_T i) := by
  intro d
  induction d with
  | zero =>
    intro i n hi hn
    obtain ⟨n, rfl⟩ : ∃ k, n = k + 1 := ⟨n - 1, by omega⟩
    obtain rfl : i = 8 := by omega
    rw [wX_save_63]
    dsimp only
    rw [nI_clamp (n := t) (by omega)]
    exact br_t mh_e8 ⟨vp_in_nI ht (by decide), nm_e h⟩
  | succ d ih =>
    intro i n hi hn
    obtain ⟨n, rfl⟩ : ∃ k, n = k + 1 := ⟨n - 1, by omega⟩
    have g := ih (i + 1) n (by omega) (by omega)
    rw [← mh_flS rfl] at g
    rw [wX_save_63]
    dsimp only
    rw [mh_ix, mh_ix, nI_clamp (n := 8 * j + i) (by omega), nI_clamp (n := 8 * t + i) (by omega)]
    exact br_f (mh_g8 (by omega)) ⟨vp_in_nI (by omega) (by decide), vp_in_nI (by omega) (by decide), nm_e (nm_r (nI_1 i) g)⟩
theorem mx_save_r {post : Int32 → SX → Prop} {p : Int32} (h : ¬ mh_tr op p = 0) (hp : post (mh_tr op p) (c, cv, op, st, sv, ch, sl, sc, dt, dc, dv)) : wpX_save post (c, cv, op, st, sv, ch, sl, sc, dt, dc, dv) p := by
  unfold wpX_save
  dsimp only
  exact mx_tr (br_f h hp)
theorem mx_save_f {post : Int32 → SX → Prop} {t : Nat} (ht : t < 4) (ho : ¬ op t = 0) (hs : sc t = nI 3) (hp : post (-6) (c, cv, op, st, sv, ch, sl, sc, dt, dc, dv)) : wpX_save post (c, cv, op, st, sv, ch, sl, sc, dt, dc, dv) (nI t) := by
  unfold wpX_save
  dsimp only
  rw [nI_clamp (n := t) (by omega)]
  exact mx_tr (br_t (mh_trk ht ho) ⟨vp_in_nI ht (by decide), nm_r hs (br_f (by decide) hp)⟩)
theorem mx_save_o {post : Int32 → SX → Prop} {t m : Nat} (ht : t < 4) (ho : ¬ op t = 0) (hm : m < 3) (hs : sc t = nI m) (hp : post (nI m + 1) (c, cv, op, st, sv, ch, sl, upd sc t (nI m + 1), upd dt (3 * t + m) (st t), upd dc (3 * t + m) (ch t), mh_fl dv (8 * (3 * t + m)) (fun r => sv (8 * t + r)) mh_T 8)) : wpX_save post (c, cv, op, st, sv, ch, sl, sc, dt, dc, dv) (nI t) := by
  unfold wpX_save
  dsimp only
  rw [nI_clamp (n := t) (by omega)]
  have hi : vp_in (nI t) 4 := vp_in_nI ht (by decide)
  have hj : vp_in (nI (3 * t + m)) 12 := vp_in_nI (by omega) (by decide)
  have g := mx_svl ht (show 3 * t + m < 12 by omega) hp 8 0 9 (by omega) (by omega)
  rw [mh_fl0] at g
  refine mx_tr (br_t (mh_trk ht ho) ⟨hi, nm_r hs (br_t (nI_lt (b := 3) hm (by decide)) (nm_r (mh_i3 t m) ⟨hi, hj, ?_⟩))⟩)
  rw [nI_clamp (n := 3 * t + m) (by omega)]
  exact nm_e ⟨hi, hj, nm_e ⟨9, g⟩⟩
/-! back -/
theorem mx_bkl {post : Int32 → SX → Prop} {t j : Nat} {x : Int32} (ht : t < 4) (hj : j < 12) (h : post x (c, cv, op, st, mh_fl sv (8 * t) (fun r => dv (8 * j + r)) mh_T 8, ch, sl, upd sc t x, dt, dc, dv)) : ∀ d i n : Nat, i + d = 8 → d < n → wX_back_64 post (nI t) x (nI j) c n (nI i) cv op st (mh_fl sv (8 * t) (fun r => dv (8 * j + r)) mh_T i) ch sl sc dt dc dv := by
  intro d
  induction d with
  | zero =>
    intro i n hi hn
    obtain ⟨n, rfl⟩ : ∃ k, n = k + 1 := ⟨n - 1, by omega⟩
    obtain rfl : i = 8 := by omega
    rw [wX_back_64]
    dsimp only
    rw [nI_clamp (n := t) (by omega)]
    exact br_t mh_e8 ⟨vp_in_nI ht (by decide), nm_e h⟩
  | succ d ih =>
    intro i n hi hn
    obtain ⟨n, rfl⟩ : ∃ k, n = k + 1 := ⟨n - 1, by omega⟩
    have g := ih (i + 1) n (by omega) (by omega)
    rw [← mh_flS rfl] at g
    rw [wX_back_64]
    dsimp only
    rw [mh_ix, mh_ix, nI_clamp (n := 8 * j + i) (by omega), nI_clamp (n := 8 * t + i) (by omega)]
    exact br_f (mh_g8 (by omega)) ⟨vp_in_nI (by omega) (by decide), vp_in_nI (by omega) (by decide), nm_e (nm_r (nI_1 i) g)⟩
theorem mx_back_r {post : Int32 → SX → Prop} {p : Int32} (h : ¬ mh_tr op p = 0) (hp : post (mh_tr op p) (c, cv, op, st, sv, ch, sl, sc, dt, dc, dv)) : wpX_back post (c, cv, op, st, sv, ch, sl, sc, dt, dc, dv) p := by
  unfold wpX_back
  dsimp only
  exact mx_tr (br_f h hp)
theorem mx_back_z {post : Int32 → SX → Prop} {t : Nat} (ht : t < 4) (ho : ¬ op t = 0) (hs : sc t = nI 0) (hp : post (-3) (c, cv, op, st, sv, ch, sl, sc, dt, dc, dv)) : wpX_back post (c, cv, op, st, sv, ch, sl, sc, dt, dc, dv) (nI t) := by
  unfold wpX_back
  dsimp only
  rw [nI_clamp (n := t) (by omega)]
  exact mx_tr (br_t (mh_trk ht ho) ⟨vp_in_nI ht (by decide), nm_r (e' := -1) (by rw [hs]; decide) (br_f (by decide) hp)⟩)
theorem mx_back_o {post : Int32 → SX → Prop} {t m : Nat} (ht : t < 4) (ho : ¬ op t = 0) (hm : m < 3) (hs : sc t = nI (m + 1)) (hp : post (nI m) (c, cv, op, upd st t (dt (3 * t + m)), mh_fl sv (8 * t) (fun r => dv (8 * (3 * t + m) + r)) mh_T 8, upd ch t (dc (3 * t + m)), sl, upd sc t (nI m), dt, dc, dv)) : wpX_back post (c, cv, op, st, sv, ch, sl, sc, dt, dc, dv) (nI t) := by
  unfold wpX_back
  dsimp only
  rw [nI_clamp (n := t) (by omega)]
  have hi : vp_in (nI t) 4 := vp_in_nI ht (by decide)
  have hj : vp_in (nI (3 * t + m)) 12 := vp_in_nI (by omega) (by decide)
  have g := mx_bkl ht (show 3 * t + m < 12 by omega) hp 8 0 9 (by omega) (by omega)
  rw [mh_fl0] at g
  refine mx_tr (br_t (mh_trk ht ho) ⟨hi, nm_r (e' := nI m) (by rw [hs, nI_pred]) (br_t (nI_pos' (by omega)) (nm_r (mh_i3 t m) ⟨hj, hi, ?_⟩))⟩)
  rw [nI_clamp (n := 3 * t + m) (by omega)]
  exact nm_e ⟨hj, hi, nm_e ⟨9, g⟩⟩
/-! commit, abort, crash -/
theorem mx_c95 {post : Int32 → SX → Prop} {x : Int32} (h : post (mh_ct (bt x) 8) (c, cv, op, st, sv, ch, mh_fl sl 0 (fun j => sl j ||| x) mh_T 4, sc, dt, dc, dv)) : ∀ d i n : Nat, i + d = 4 → d < n → wX_commit_95 post x c n (nI i) cv op st sv ch (mh_fl sl 0 (fun j => sl j ||| x) mh_T i) sc dt dc dv := by
  intro d
  induction d with
  | zero =>
    intro i n hi hn
    obtain ⟨n, rfl⟩ : ∃ k, n = k + 1 := ⟨n - 1, by omega⟩
    obtain rfl : i = 4 := by omega
    exact br_t mh_e4 (mx_sz h)
  | succ d ih =>
    intro i n hi hn
    obtain ⟨n, rfl⟩ : ∃ k, n = k + 1 := ⟨n - 1, by omega⟩
    have g := ih (i + 1) n (by omega) (by omega)
    rw [← mh_flS0 rfl] at g
    rw [wX_commit_95]
    dsimp only
    rw [nI_clamp (n := i) (by omega), mh_flo (j := i) (by omega)]
    exact br_f (mh_g4 (by omega)) ⟨vp_in_nI (by omega) (by decide), vp_in_nI (by omega) (by decide), nm_e (nm_r (nI_1 i) g)⟩
theorem mx_c43 {post : Int32 → SX → Prop} {t : Nat} {x : Int32} (ht : t < 4) (h : post (mh_ct (bt x) 8) (c, mh_fl cv 0 (fun r => sv (8 * t + r)) (bt x) 8, upd op t 0, st, sv, ch, mh_fl sl 0 (fun j => sl j ||| x) mh_T 4, sc, dt, dc, dv)) : ∀ d i n : Nat, i + d = 8 → d < n → wX_commit_43 post (nI t) x c n (nI i) (mh_fl cv 0 (fun r => sv (8 * t + r)) (bt x) i) op st sv ch sl sc dt dc dv := by
  intro d
  induction d with
  | zero =>
    intro i n hi hn
    obtain ⟨n, rfl⟩ : ∃ k, n = k + 1 := ⟨n - 1, by omega⟩
    obtain rfl : i = 8 := by omega
    have g := mx_c95 h 4 0 5 (by omega) (by omega)
    rw [mh_fl0] at g
    rw [wX_commit_43]
    dsimp only
    rw [nI_clamp (n := t) (by omega), mh_n0]
    exact br_t mh_e8 ⟨vp_in_nI ht (by decide), nm_e ⟨5, g⟩⟩
  | succ d ih =>
    intro i n hi hn
    obtain ⟨n, rfl⟩ : ∃ k, n = k + 1 := ⟨n - 1, by omega⟩
    have g := ih (i + 1) n (by omega) (by omega)
    rw [wX_commit_43]
    dsimp only
    rw [mh_ix, nI_clamp (n := i) (by omega), nI_clamp (n := 8 * t + i) (by omega)]
    refine br_f (mh_g8 (by omega)) (mx_ct (by omega) (fun hb => ?_) (fun hb => ?_))
    · rw [← mh_flS0 hb] at g
      exact br_f (by decide) ⟨vp_in_nI (by omega) (by decide), vp_in_nI (by omega) (by decide), nm_e (nm_r (nI_1 i) g)⟩
    · rw [← mh_flN (Or.inl hb)] at g
      exact br_t rfl (nm_r (nI_1 i) g)
theorem mx_commit_r {post : Int32 → SX → Prop} {p : Int32} (h : ¬ mh_tr op p = 0) (hp : post (mh_tr op p) (c, cv, op, st, sv, ch, sl, sc, dt, dc, dv)) : wpX_commit post (c, cv, op, st, sv, ch, sl, sc, dt, dc, dv) p := by
  unfold wpX_commit
  dsimp only
  exact mx_tr (br_f h hp)
theorem mx_commit_o {post : Int32 → SX → Prop} {t : Nat} (ht : t < 4) (ho : ¬ op t = 0) (hp : post (mh_ct (bt (ch t)) 8) ((c &&& (ch t ^^^ (-1))) ||| (st t &&& ch t), mh_fl cv 0 (fun r => sv (8 * t + r)) (bt (ch t)) 8, upd op t 0, st, sv, ch, mh_fl sl 0 (fun j => sl j ||| ch t) mh_T 4, sc, dt, dc, dv)) : wpX_commit post (c, cv, op, st, sv, ch, sl, sc, dt, dc, dv) (nI t) := by
  unfold wpX_commit
  dsimp only
  rw [nI_clamp (n := t) (by omega)]
  have hi : vp_in (nI t) 4 := vp_in_nI ht (by decide)
  have g := mx_c43 ht hp 8 0 9 (by omega) (by omega)
  rw [mh_fl0] at g
  exact mx_tr (br_t (mh_trk ht ho) ⟨hi, nm_e ⟨hi, nm_e ⟨9, g⟩⟩⟩)
theorem mx_abort_r {post : Int32 → SX → Prop} {p : Int32} (h : ¬ mh_tr op p = 0) (hp : post (mh_tr op p) (c, cv, op, st, sv, ch, sl, sc, dt, dc, dv)) : wpX_abort post (c, cv, op, st, sv, ch, sl, sc, dt, dc, dv) p := by
  unfold wpX_abort
  dsimp only
  exact mx_tr (br_f h hp)
theorem mx_abort_o {post : Int32 → SX → Prop} {t : Nat} (ht : t < 4) (ho : ¬ op t = 0) (hp : post (mh_ct (bt (ch t)) 8) (c, cv, upd op t 0, st, sv, ch, sl, sc, dt, dc, dv)) : wpX_abort post (c, cv, op, st, sv, ch, sl, sc, dt, dc, dv) (nI t) := by
  unfold wpX_abort
  dsimp only
  rw [nI_clamp (n := t) (by omega), mh_n0]
  have hi : vp_in (nI t) 4 := vp_in_nI ht (by decide)
  exact mx_tr (br_t (mh_trk ht ho) ⟨hi, nm_e ⟨hi, mx_sz hp⟩⟩)
theorem mx_crl {post : Int32 → SX → Prop} (h : post (mh_ct (fun t => !decide (op t = 0)) 4) (c, cv, mh_fl op 0 (fun _ => 0) mh_T 4, st, sv, ch, sl, sc, dt, dc, dv)) : ∀ d i n : Nat, i + d = 4 → d < n → wX_crash_4 post c n (mh_ct (fun t => !decide (op t = 0)) i) (nI i) cv (mh_fl op 0 (fun _ => 0) mh_T i) st sv ch sl sc dt dc dv := by
  intro d
  induction d with
  | zero =>
    intro i n hi hn
    obtain ⟨n, rfl⟩ : ∃ k, n = k + 1 := ⟨n - 1, by omega⟩
    obtain rfl : i = 4 := by omega
    exact br_t mh_e4 h
  | succ d ih =>
    intro i n hi hn
    obtain ⟨n, rfl⟩ : ∃ k, n = k + 1 := ⟨n - 1, by omega⟩
    have g := ih (i + 1) n (by omega) (by omega)
    rw [wX_crash_4]
    dsimp only
    rw [nI_clamp (n := i) (by omega), mh_flo (j := i) (by omega), mh_n0]
    have hi : vp_in (nI i) 4 := vp_in_nI (by omega) (by decide)
    refine br_f (mh_g4 (by omega)) ⟨hi, ?_⟩
    by_cases ho : op i = 0
    · rw [mh_ctf (by rw [decide_eq_true ho]; rfl), ← mh_flN (Or.inr (by rw [Nat.zero_add]; exact ho.symm))] at g
      exact br_t ho (nm_r (nI_1 i) g)
    · rw [mh_ctt (by rw [decide_eq_false ho]; rfl), ← mh_flS0 rfl] at g
      exact br_f ho (nm_e ⟨hi, nm_e (nm_r (nI_1 i) g)⟩)
theorem mx_crash {post : Int32 → SX → Prop} (h : post (mh_ct (fun t => !decide (op t = 0)) 4) (c, cv, mh_fl op 0 (fun _ => 0) mh_T 4, st, sv, ch, sl, sc, dt, dc, dv)) : wpX_crash post (c, cv, op, st, sv, ch, sl, sc, dt, dc, dv) := by
  unfold wpX_crash
  dsimp only
  have g := mx_crl h 4 0 5 (by omega) (by omega)
  rw [mh_fl0] at g
  exact ⟨5, g⟩
/-! committed, rows -/
theorem mx_committed {post : Int32 → Prop} {q : Int32} (h1 : q < 0 ∨ 8 ≤ q → post 0) (h2 : ∀ r : Nat, r < 8 → q = nI r → post (if bt c r = true then cv r else 0)) : wpX_committed post (c, cv, op, st, sv, ch, sl, sc, dt, dc, dv) q := by
  unfold wpX_committed
  dsimp only
  refine mx_row (fun z => br_t rfl (h1 z)) (fun r hr e => br_f (by decide) ?_)
  have h := h2 r hr e
  subst e
  rw [nI_clamp (n := r) (by omega)]
  refine mx_ct hr (fun hb => ?_) (fun hb => ?_)
  · rw [if_pos hb] at h; exact br_f (by decide) ⟨vp_in_nI hr (by decide), h⟩
  · rw [if_neg (mh_nt hb)] at h; exact br_t rfl h
theorem mx_rows {post : Int32 → Prop} (h : post (mh_ct (bt c) 8)) : wpX_rows post (c, cv, op, st, sv, ch, sl, sc, dt, dc, dv) := by
  unfold wpX_rows
  dsimp only
  exact mx_sz h
end
