/-! ===== the class's helpers and loops: 'post value → wp post' ===== -/
section
variable {c : Int32} {cv op st sv ch sl sc dt dc dv : Nat → Int32}
theorem mx_tr {post : Int32 → Prop} {p : Int32} (h : post (mh_tr op p)) : wpX_transactionRefusal post (c, cv, op, st, sv, ch, sl, sc, dt, dc, dv) p := by
  unfold wpX_transactionRefusal wpX_isTransaction
  dsimp only
  unfold mh_tr at h
  by_cases h0 : p < 0
  · rw [if_pos h0] at h; exact br_t h0 (br_t rfl h)
  · rw [if_neg h0] at h
    by_cases h4 : 4 ≤ p
    · rw [if_pos h4] at h; exact br_f h0 (br_t h4 (br_t rfl h))
    · rw [if_neg h4] at h
      obtain ⟨t, ht, rfl⟩ := mh_lt (n := 4) rfl (by omega) h0 h4
      refine br_f h0 (br_f h4 (br_f (by decide) ⟨vp_in_nI ht (by decide), ?_⟩))
      by_cases ho : op (nI t).toNatClampNeg = 0
      · rw [if_pos ho] at h; exact br_t ho h
      · rw [if_neg ho] at h; exact br_f ho h
theorem mx_row {post : Int32 → Prop} {q : Int32} (h1 : q < 0 ∨ 8 ≤ q → post 0) (h2 : ∀ r : Nat, r < 8 → q = nI r → post 1) : wpX_isRow post (c, cv, op, st, sv, ch, sl, sc, dt, dc, dv) q := by
  unfold wpX_isRow
  dsimp only
  refine br_c (fun h0 => h1 (Or.inl h0)) (fun h0 => br_c (fun h8 => h1 (Or.inr h8)) (fun h8 => ?_))
  obtain ⟨r, hr, rfl⟩ := mh_lt (n := 8) rfl (by omega) h0 h8
  exact h2 r hr rfl
theorem mx_rr {post : Int32 → Prop} {p q : Int32} (h : post (mh_rr op p q)) : wpX_rowRefusal post (c, cv, op, st, sv, ch, sl, sc, dt, dc, dv) p q := by
  unfold wpX_rowRefusal
  dsimp only
  refine mx_tr ?_
  unfold mh_rr at h
  by_cases a : mh_tr op p = 0
  · rw [if_pos a] at h
    refine br_t a (mx_row (fun z => br_t rfl ?_) (fun r hr e => br_f (by decide) ?_))
    · by_cases h0 : q < 0
      · rw [if_pos h0] at h; exact h
      · rw [if_neg h0, if_pos (z.resolve_left h0)] at h; exact h
    · subst e
      rw [if_neg (nI_pos (by omega)), if_neg (mh_g8 hr)] at h
      exact h
  · rw [if_neg a] at h; exact br_f a h
theorem mx_ct {post : Int32 → Prop} {s : Int32} {r : Nat} (hr : r < 8) (h1 : bt s r = true → post 1) (h0 : bt s r = false → post 0) : wpX_contains post (c, cv, op, st, sv, ch, sl, sc, dt, dc, dv) s (nI r) := by
  unfold wpX_contains
  dsimp only
  cases hb : bt s r
  · exact br_f (mh_bf hr hb) (h0 hb)
  · exact br_t (mh_bt hr hb) (h1 hb)
theorem mx_cfl {post : Int32 → Prop} {t r : Nat} (ht : t < 4) (hr : r < 8) : ∀ d i n : Nat, i + d = 4 → d < n → post (mh_cf op ch sl t r d i) → wX_conflict_2 post (nI t) (nI r) c cv op st sv ch sl sc dt dc dv n (nI i) := by
  intro d
  induction d with
  | zero =>
    intro i n hi hn h
    obtain ⟨n, rfl⟩ : ∃ k, n = k + 1 := ⟨n - 1, by omega⟩
    obtain rfl : i = 4 := by omega
    unfold mh_cf at h
    rw [wX_conflict_2]
    refine br_t mh_e4 ⟨vp_in_nI ht (by decide), ?_⟩
    rw [nI_clamp (by omega)]
    refine mx_ct hr (fun hb => ?_) (fun hb => ?_)
    · rw [if_pos hb] at h; exact br_f (by decide) h
    · rw [if_neg (mh_nt hb)] at h; exact br_t rfl h
  | succ d ih =>
    intro i n hi hn h
    obtain ⟨n, rfl⟩ : ∃ k, n = k + 1 := ⟨n - 1, by omega⟩
    unfold mh_cf at h
    rw [wX_conflict_2]
    refine br_f (mh_g4 (by omega)) ?_
    by_cases e : i = t
    · rw [if_pos e] at h
      exact br_t (by rw [e]) (nm_r (nI_1 i) (ih (i + 1) n (by omega) (by omega) h))
    · rw [if_neg e] at h
      refine br_f (fun z => e ((nI_eq (by omega) (by omega)).mp z)) ⟨vp_in_nI (by omega) (by decide), ?_⟩
      rw [nI_clamp (by omega)]
      by_cases ho : op i = 0
      · rw [if_pos ho] at h
        exact br_t ho (nm_r (nI_1 i) (ih (i + 1) n (by omega) (by omega) h))
      · rw [if_neg ho] at h
        refine br_f ho ⟨vp_in_nI (by omega) (by decide), ?_⟩
        refine mx_ct hr (fun hb => ?_) (fun hb => ?_)
        · rw [if_pos hb] at h; exact br_f (by decide) h
        · rw [if_neg (mh_nt hb)] at h
          exact br_t rfl (nm_r (nI_1 i) (ih (i + 1) n (by omega) (by omega) h))
theorem mx_cf {post : Int32 → Prop} {t r : Nat} (ht : t < 4) (hr : r < 8) (h : post (mh_cf op ch sl t r 4 0)) : wpX_conflict post (c, cv, op, st, sv, ch, sl, sc, dt, dc, dv) (nI t) (nI r) := by
  unfold wpX_conflict
  exact ⟨5, mx_cfl ht hr 4 0 5 (by omega) (by omega) h⟩
theorem mx_szl {post : Int32 → Prop} {s : Int32} (h : post (mh_ct (bt s) 8)) : ∀ d i n : Nat, i + d = 8 → d < n → wX_size_4 post s c cv op st sv ch sl sc dt dc dv n (mh_ct (bt s) i) (nI i) := by
  intro d
  induction d with
  | zero =>
    intro i n hi hn
    obtain ⟨n, rfl⟩ : ∃ k, n = k + 1 := ⟨n - 1, by omega⟩
    obtain rfl : i = 8 := by omega
    exact br_t mh_e8 h
  | succ d ih =>
    intro i n hi hn
    obtain ⟨n, rfl⟩ : ∃ k, n = k + 1 := ⟨n - 1, by omega⟩
    have g := ih (i + 1) n (by omega) (by omega)
    rw [wX_size_4]
    refine br_f (mh_g8 (by omega)) (mx_ct (by omega) (fun hb => ?_) (fun hb => ?_))
    · rw [mh_ctt hb] at g
      exact br_f (by decide) (nm_e (nm_r (nI_1 i) g))
    · rw [mh_ctf hb] at g
      exact br_t rfl (nm_r (nI_1 i) g)
theorem mx_sz {post : Int32 → Prop} {s : Int32} (h : post (mh_ct (bt s) 8)) : wpX_size post (c, cv, op, st, sv, ch, sl, sc, dt, dc, dv) s := by
  unfold wpX_size
  exact ⟨9, mx_szl h 8 0 9 (by omega) (by omega)⟩
theorem mx_pf {post : Int32 → Prop} {p q : Int32} (h : post (mh_pf op ch sl p q)) : wpX_rowRefusal (fun r_1 => (((r_1 = 0 → (wpX_conflict (fun r_37 => post r_37) (c, cv, op, st, sv, ch, sl, sc, dt, dc, dv) p q)) ∧ (¬ r_1 = 0 → post r_1)))) (c, cv, op, st, sv, ch, sl, sc, dt, dc, dv) p q := by
  refine mx_rr ?_
  by_cases a : mh_rr op p q = 0
  · refine br_t a ?_
    obtain ⟨t, r, ht, hr, rfl, rfl, ho⟩ := mh_rr0 a
    rw [mh_pfk ht hr ho] at h
    exact mx_cf ht hr h
  · unfold mh_pf at h
    rw [if_neg a] at h
    exact br_f a h
theorem mx_ef {post : Int32 → Prop} {p q : Int32} (h : post (mh_ef op st ch sl p q)) : wpX_existingRowRefusal post (c, cv, op, st, sv, ch, sl, sc, dt, dc, dv) p q := by
  unfold wpX_existingRowRefusal
  dsimp only
  refine mx_rr ?_
  by_cases a : mh_rr op p q = 0
  · refine br_t a ?_
    obtain ⟨t, r, ht, hr, rfl, rfl, ho⟩ := mh_rr0 a
    rw [mh_efk ht hr ho] at h
    refine ⟨vp_in_nI ht (by decide), ?_⟩
    rw [nI_clamp (by omega)]
    refine mx_ct hr (fun hb => ?_) (fun hb => ?_)
    · rw [if_pos hb] at h; exact br_f (by decide) (mx_cf ht hr h)
    · rw [if_neg (mh_nt hb)] at h; exact br_t rfl h
  · unfold mh_ef at h
    rw [if_neg a] at h
    exact br_f a h
end
