/-! ===== the reference's helpers and loops ===== -/
section
variable {st ch th vl cg op sl sc : Nat → Int32}
theorem my_tr {post : Int32 → Prop} {p : Int32} (h : post (mh_tr op p)) : wpY_test post (th, vl, cg, op, sl, sc) p := by
  unfold wpY_test
  dsimp only
  unfold mh_tr at h
  by_cases h0 : p < 0
  · rw [if_pos h0] at h; exact br_t h0 h
  · rw [if_neg h0] at h
    by_cases h4 : 4 ≤ p
    · rw [if_pos h4] at h
      exact br_f h0 (br_f (fun z => absurd (Int32.le_trans h4 z) (by decide)) h)
    · rw [if_neg h4] at h
      obtain ⟨t, ht, rfl⟩ := mh_lt (n := 4) rfl (by omega) h0 h4
      refine br_f h0 (br_t (nI_le (b := 3) (by omega) (by decide)) ⟨vp_in_nI ht (by decide), ?_⟩)
      by_cases ho : op (nI t).toNatClampNeg = 0
      · rw [if_pos ho] at h; exact br_t ho h
      · rw [if_neg ho] at h; exact br_f ho h
theorem my_rr {post : Int32 → Prop} {p q : Int32} (h : post (mh_rr op p q)) : wpY_testRow post (th, vl, cg, op, sl, sc) p q := by
  unfold wpY_testRow
  dsimp only
  refine my_tr ?_
  unfold mh_rr at h
  by_cases a : mh_tr op p = 0
  · rw [if_pos a] at h
    refine br_t a ?_
    rw [a]
    by_cases h0 : q < 0
    · rw [if_pos h0] at h; exact br_t h0 h
    · rw [if_neg h0] at h
      by_cases h8 : 8 ≤ q
      · rw [if_pos h8] at h
        exact br_f h0 (br_f (fun z => absurd (Int32.le_trans h8 z) (by decide)) h)
      · rw [if_neg h8] at h
        obtain ⟨r, hr, rfl⟩ := mh_lt (n := 8) rfl (by omega) h0 h8
        exact br_f h0 (br_t (nI_le (b := 7) (by omega) (by decide)) h)
  · rw [if_neg a] at h; exact br_f a h
theorem my_cfl {post : Int32 → Prop} {t r : Nat} (ht : t < 4) (hr : r < 8) (hC : ∀ i, i < 4 → cg i = ch i) : ∀ d i n : Nat, i + d = 4 → d < n → post (mh_cf op ch sl t r d i) → wY_testChange_2 post (nI t) (nI r) th vl cg op sl sc n (nI i) := by
  intro d
  induction d with
  | zero =>
    intro i n hi hn h
    obtain ⟨n, rfl⟩ : ∃ k, n = k + 1 := ⟨n - 1, by omega⟩
    obtain rfl : i = 4 := by omega
    unfold mh_cf at h
    rw [wY_testChange_2]
    refine br_t mh_e4 ⟨vp_in_nI ht (by decide), ?_⟩
    rw [nI_clamp (by omega)]
    cases hb : bt (sl t) r
    · rw [if_neg (mh_nt hb)] at h; exact br_f (mh_bf hr hb) h
    · rw [if_pos hb] at h; exact br_t (mh_bt hr hb) h
  | succ d ih =>
    intro i n hi hn h
    obtain ⟨n, rfl⟩ : ∃ k, n = k + 1 := ⟨n - 1, by omega⟩
    unfold mh_cf at h
    rw [wY_testChange_2]
    refine br_f (mh_g4 (by omega)) ?_
    by_cases e : i = t
    · rw [if_pos e] at h
      exact br_t (by rw [e]) (nm_r (nI_1 i) (ih (i + 1) n (by omega) (by omega) h))
    · rw [if_neg e] at h
      refine br_f (fun z => e ((nI_eq (by omega) (by omega)).mp z)) ⟨vp_in_nI (by omega) (by decide), ?_⟩
      rw [nI_clamp (by omega), hC i (by omega)]
      by_cases ho : op i = 0
      · rw [if_pos ho] at h
        exact br_t ho (nm_r (nI_1 i) (ih (i + 1) n (by omega) (by omega) h))
      · rw [if_neg ho] at h
        refine br_f ho ⟨vp_in_nI (by omega) (by decide), ?_⟩
        cases hb : bt (ch i) r
        · rw [if_neg (mh_nt hb)] at h
          exact br_f (mh_bf hr hb) (nm_r (nI_1 i) (ih (i + 1) n (by omega) (by omega) h))
        · rw [if_pos hb] at h; exact br_t (mh_bt hr hb) h
theorem my_cf {post : Int32 → Prop} {t r : Nat} (ht : t < 4) (hr : r < 8) (hC : ∀ i, i < 4 → cg i = ch i) (h : post (mh_cf op ch sl t r 4 0)) : wpY_testChange post (th, vl, cg, op, sl, sc) (nI t) (nI r) := by
  unfold wpY_testChange
  exact ⟨5, my_cfl ht hr hC 4 0 5 (by omega) (by omega) h⟩
theorem my_pf {post : Int32 → Prop} {p q : Int32} (hC : ∀ i, i < 4 → cg i = ch i) (h : post (mh_pf op ch sl p q)) : wpY_testRow (fun r_1 => (((r_1 = 0 → (wpY_testChange (fun r_19 => post r_19) (th, vl, cg, op, sl, sc) p q)) ∧ (¬ r_1 = 0 → post r_1)))) (th, vl, cg, op, sl, sc) p q := by
  refine my_rr ?_
  by_cases a : mh_rr op p q = 0
  · refine br_t a ?_
    obtain ⟨t, r, ht, hr, rfl, rfl, ho⟩ := mh_rr0 a
    rw [mh_pfk ht hr ho] at h
    exact my_cf ht hr hC h
  · unfold mh_pf at h
    rw [if_neg a] at h
    exact br_f a h
/-- a cell of there against a bit -/
theorem my_b0 {x : Int32} {b : Bool} (h : x = if b = true then 1 else 0) (hb : b = false) : x = 0 := by rw [h, if_neg (mh_nt hb)]
theorem my_b1 {x : Int32} {b : Bool} (h : x = if b = true then 1 else 0) (hb : b = true) : ¬ x = 0 := by rw [h, if_pos hb]; decide
theorem my_bn {x : Int32} {b : Bool} (h : x = if b = true then 1 else 0) : vp_nar .boolean x = x := by
  cases b
  · rw [h]; exact mh_n0
  · rw [h]; exact mh_n1
theorem my_ef {post : Int32 → Prop} {p q : Int32} (hC : ∀ i, i < 4 → cg i = ch i) (hB : ∀ t, t < 4 → ∀ r, r < 8 → th (8 * t + r) = if bt (st t) r = true then 1 else 0) (h : post (mh_ef op st ch sl p q)) : wpY_testSeen post (th, vl, cg, op, sl, sc) p q := by
  unfold wpY_testSeen
  dsimp only
  refine my_rr ?_
  by_cases a : mh_rr op p q = 0
  · refine br_t a ?_
    obtain ⟨t, r, ht, hr, rfl, rfl, ho⟩ := mh_rr0 a
    rw [mh_efk ht hr ho] at h
    rw [mh_iy, nI_clamp (by omega)]
    refine ⟨vp_in_nI (by omega) (by decide), ?_⟩
    cases hb : bt (st t) r
    · rw [if_neg (mh_nt hb)] at h; exact br_t (my_b0 (hB t ht r hr) hb) h
    · rw [if_pos hb] at h; exact br_f (my_b1 (hB t ht r hr) hb) (my_cf ht hr hC h)
  · unfold mh_ef at h
    rw [if_neg a] at h
    exact br_f a h
theorem my_cpl {post : SY → Prop} {a b : Nat} (ha : a < 17) (hb : b < 17) (hab : a ≠ b) (hn : ∀ r, r < 8 → vp_nar .boolean (th (8 * a + r)) = th (8 * a + r)) (h : post (mh_fl th (8 * b) (fun r => th (8 * a + r)) mh_T 8, mh_fl vl (8 * b) (fun r => vl (8 * a + r)) mh_T 8, upd cg b (cg a), op, sl, sc)) : ∀ d i n : Nat, i + d = 8 → d < n → wY_copy_2 post (nI a) (nI b) n (nI i) (mh_fl th (8 * b) (fun r => th (8 * a + r)) mh_T i) (mh_fl vl (8 * b) (fun r => vl (8 * a + r)) mh_T i) cg op sl sc := by
  intro d
  induction d with
  | zero =>
    intro i n hi hn
    obtain ⟨n, rfl⟩ : ∃ k, n = k + 1 := ⟨n - 1, by omega⟩
    obtain rfl : i = 8 := by omega
    rw [wY_copy_2]
    dsimp only
    rw [nI_clamp (n := a) (by omega), nI_clamp (n := b) (by omega)]
    exact br_t mh_e8 ⟨vp_in_nI ha (by decide), vp_in_nI hb (by decide), nm_e h⟩
  | succ d ih =>
    intro i n hi hk
    obtain ⟨n, rfl⟩ : ∃ k, n = k + 1 := ⟨n - 1, by omega⟩
    have g := ih (i + 1) n (by omega) (by omega)
    rw [← mh_flS (f := th) rfl, ← mh_flS (f := vl) rfl] at g
    rw [wY_copy_2]
    dsimp only
    rw [mh_iy, mh_iy, nI_clamp (n := 8 * a + i) (by omega), nI_clamp (n := 8 * b + i) (by omega), mh_flo (f := th) (j := 8 * a + i) (by omega), mh_flo (f := vl) (j := 8 * a + i) (by omega), hn i (by omega)]
    have h1 : vp_in (nI (8 * a + i)) 136 := vp_in_nI (by omega) (by decide)
    have h2 : vp_in (nI (8 * b + i)) 136 := vp_in_nI (by omega) (by decide)
    exact br_f (mh_g8 (by omega)) ⟨h1, h2, nm_e ⟨h1, h2, nm_e (nm_r (nI_1 i) g)⟩⟩
theorem my_copy {post : SY → Prop} {a b : Nat} (ha : a < 17) (hb : b < 17) (hab : a ≠ b) (hn : ∀ r, r < 8 → vp_nar .boolean (th (8 * a + r)) = th (8 * a + r)) (h : post (mh_fl th (8 * b) (fun r => th (8 * a + r)) mh_T 8, mh_fl vl (8 * b) (fun r => vl (8 * a + r)) mh_T 8, upd cg b (cg a), op, sl, sc)) : wpY_copy post (th, vl, cg, op, sl, sc) (nI a) (nI b) := by
  unfold wpY_copy
  have g := my_cpl ha hb hab hn h 8 0 9 (by omega) (by omega)
  rw [mh_fl0, mh_fl0] at g
  exact ⟨9, g⟩
theorem my_szl {post : Int32 → Prop} {s : Int32} (h : post (mh_ct (bt s) 8)) : ∀ d i n : Nat, i + d = 8 → d < n → wY_bits_4 post s th vl cg op sl sc n (mh_ct (bt s) i) (nI i) := by
  intro d
  induction d with
  | zero =>
    intro i n hi hn
    obtain ⟨n, rfl⟩ : ∃ k, n = k + 1 := ⟨n - 1, by omega⟩
    obtain rfl : i = 8 := by omega
    exact br_t mh_e8 h
  | succ d ih =>
    intro i n hi hn
    obtain ⟨n, rfl⟩ : ∃ k, n = k + 1 := ⟨n - 1, by omega⟩
    have g := ih (i + 1) n (by omega) (by omega)
    rw [wY_bits_4]
    refine br_f (mh_g8 (by omega)) ?_
    cases hb : bt s i
    · rw [mh_ctf hb] at g
      exact nm_r (by rw [mh_bf0 (by omega) hb, Int32.add_zero]) (nm_r (nI_1 i) g)
    · rw [mh_ctt hb] at g
      exact nm_r (by rw [mh_bt (by omega) hb]) (nm_r (nI_1 i) g)
theorem my_sz {post : Int32 → Prop} {s : Int32} (h : post (mh_ct (bt s) 8)) : wpY_bits post (th, vl, cg, op, sl, sc) s := by
  unfold wpY_bits
  exact ⟨9, my_szl h 8 0 9 (by omega) (by omega)⟩
theorem my_change {post : SY → Prop} {t r : Nat} {x y : Int32} (ht : t < 4) (hr : r < 8) (hx : vp_nar .boolean x = x) (h : post (upd th (8 * t + r) x, upd vl (8 * t + r) y, upd cg t (cg t ||| ((1 : Int32) <<< (nI r &&& 31))), op, sl, sc)) : wpY_change post (th, vl, cg, op, sl, sc) (nI t) (nI r) x y := by
  unfold wpY_change
  dsimp only
  rw [mh_iy, nI_clamp (n := t) (by omega), nI_clamp (n := 8 * t + r) (by omega), hx]
  have h1 : vp_in (nI (8 * t + r)) 136 := vp_in_nI (by omega) (by decide)
  have h2 : vp_in (nI t) 17 := vp_in_nI (by omega) (by decide)
  exact ⟨h1, nm_e ⟨h1, nm_e ⟨h2, h2, nm_e h⟩⟩⟩
end
