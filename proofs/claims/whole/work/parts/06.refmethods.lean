/-! ===== the reference's methods ===== -/
section
variable {st sv ch th vl cg op sl sc : Nat → Int32}
/-! open -/
theorem my_open_b {post : Int32 → SY → Prop} {p : Int32} (h : ¬ mh_tr op p = 0) (h2 : ¬ mh_tr op p = -2) (hp : post (mh_tr op p) (th, vl, cg, op, sl, sc)) : wpY_open post (th, vl, cg, op, sl, sc) p := by
  unfold wpY_open
  dsimp only
  exact my_tr (br_f h2 (br_f h hp))
theorem my_open_c {post : Int32 → SY → Prop} {p : Int32} (h : mh_tr op p = 0) (hp : post (-2) (th, vl, cg, op, sl, sc)) : wpY_open post (th, vl, cg, op, sl, sc) p := by
  unfold wpY_open
  dsimp only
  exact my_tr (br_f (by rw [h]; decide) (br_t h hp))
theorem my_open_o {post : Int32 → SY → Prop} {t : Nat} (ht : t < 4) (ho : op t = 0) (hn : ∀ r, r < 8 → vp_nar .boolean (th (8 * 4 + r)) = th (8 * 4 + r)) (hp : post 0 (mh_fl th (8 * t) (fun r => th (8 * 4 + r)) mh_T 8, mh_fl vl (8 * t) (fun r => vl (8 * 4 + r)) mh_T 8, upd (upd cg t (cg 4)) t 0, upd op t 1, upd sl t 0, upd sc t 0)) : wpY_open post (th, vl, cg, op, sl, sc) (nI t) := by
  unfold wpY_open
  dsimp only
  have hi : vp_in (nI t) 4 := vp_in_nI ht (by decide)
  rw [nI_clamp (n := t) (by omega), mh_n1]
  refine my_tr (br_t (by rw [mh_tri ht, if_pos ho]) ⟨hi, nm_e ?_⟩)
  refine my_copy (a := 4) (by omega) (by omega) (by omega) hn ?_
  exact ⟨vp_in_nI (by omega) (by decide), nm_e ⟨hi, nm_e ⟨hi, nm_e hp⟩⟩⟩
/-! put, add, drop -/
theorem my_put_r {post : Int32 → SY → Prop} {p q w : Int32} (hC : ∀ i, i < 4 → cg i = ch i) (h : ¬ mh_pf op ch sl p q = 0) (hp : post (mh_pf op ch sl p q) (th, vl, cg, op, sl, sc)) : wpY_put post (th, vl, cg, op, sl, sc) p q w := by
  unfold wpY_put
  dsimp only
  refine my_pf (post := fun r => wY_put_24 post p q w r th vl cg op sl sc) hC ?_
  unfold wY_put_24
  exact br_f h hp
theorem my_put_o {post : Int32 → SY → Prop} {t r : Nat} {w : Int32} (hC : ∀ i, i < 4 → cg i = ch i) (hB : ∀ t, t < 4 → ∀ r, r < 8 → th (8 * t + r) = if bt (st t) r = true then 1 else 0) (ht : t < 4) (hr : r < 8) (h : mh_pf op ch sl (nI t) (nI r) = 0) (hp : post (if bt (st t) r = true then 1 else 0) (upd th (8 * t + r) 1, upd vl (8 * t + r) w, upd cg t (cg t ||| ((1 : Int32) <<< (nI r &&& 31))), op, sl, sc)) : wpY_put post (th, vl, cg, op, sl, sc) (nI t) (nI r) w := by
  unfold wpY_put
  dsimp only
  refine my_pf (post := fun r' => wY_put_24 post (nI t) (nI r) w r' th vl cg op sl sc) hC ?_
  unfold wY_put_24
  rw [mh_iy, nI_clamp (n := 8 * t + r) (by omega)]
  refine br_t h ⟨vp_in_nI (by omega) (by decide), ?_⟩
  unfold wY_put_53
  cases hb : bt (st t) r
  · rw [if_neg (mh_nt hb)] at hp; exact br_t (my_b0 (hB t ht r hr) hb) (my_change ht hr mh_n1 hp)
  · rw [if_pos hb] at hp; exact br_f (my_b1 (hB t ht r hr) hb) (my_change ht hr mh_n1 hp)
theorem my_add_r {post : Int32 → SY → Prop} {p q w : Int32} (hC : ∀ i, i < 4 → cg i = ch i) (hB : ∀ t, t < 4 → ∀ r, r < 8 → th (8 * t + r) = if bt (st t) r = true then 1 else 0) (h : ¬ mh_ef op st ch sl p q = 0) (hp : post (mh_ef op st ch sl p q) (th, vl, cg, op, sl, sc)) : wpY_add post (th, vl, cg, op, sl, sc) p q w := by
  unfold wpY_add
  dsimp only
  exact my_ef hC hB (br_f h hp)
theorem my_add_o {post : Int32 → SY → Prop} {t r : Nat} {w : Int32} (hC : ∀ i, i < 4 → cg i = ch i) (hB : ∀ t, t < 4 → ∀ r, r < 8 → th (8 * t + r) = if bt (st t) r = true then 1 else 0) (ht : t < 4) (hr : r < 8) (h : mh_ef op st ch sl (nI t) (nI r) = 0) (hp : post 0 (upd th (8 * t + r) 1, upd vl (8 * t + r) (vl (8 * t + r) + w), upd cg t (cg t ||| ((1 : Int32) <<< (nI r &&& 31))), op, sl, sc)) : wpY_add post (th, vl, cg, op, sl, sc) (nI t) (nI r) w := by
  unfold wpY_add
  dsimp only
  refine my_ef hC hB (br_t h ?_)
  rw [h, mh_iy, nI_clamp (n := 8 * t + r) (by omega)]
  exact ⟨vp_in_nI (by omega) (by decide), my_change ht hr mh_n1 hp⟩
theorem my_drop_r {post : Int32 → SY → Prop} {p q : Int32} (hC : ∀ i, i < 4 → cg i = ch i) (hB : ∀ t, t < 4 → ∀ r, r < 8 → th (8 * t + r) = if bt (st t) r = true then 1 else 0) (h : ¬ mh_ef op st ch sl p q = 0) (hp : post (mh_ef op st ch sl p q) (th, vl, cg, op, sl, sc)) : wpY_drop post (th, vl, cg, op, sl, sc) p q := by
  unfold wpY_drop
  dsimp only
  exact my_ef hC hB (br_f h hp)
theorem my_drop_o {post : Int32 → SY → Prop} {t r : Nat} (hC : ∀ i, i < 4 → cg i = ch i) (hB : ∀ t, t < 4 → ∀ r, r < 8 → th (8 * t + r) = if bt (st t) r = true then 1 else 0) (ht : t < 4) (hr : r < 8) (h : mh_ef op st ch sl (nI t) (nI r) = 0) (hp : post 0 (upd th (8 * t + r) 0, upd vl (8 * t + r) 0, upd cg t (cg t ||| ((1 : Int32) <<< (nI r &&& 31))), op, sl, sc)) : wpY_drop post (th, vl, cg, op, sl, sc) (nI t) (nI r) := by
  unfold wpY_drop
  dsimp only
  refine my_ef hC hB (br_t h ?_)
  rw [h]
  exact my_change ht hr mh_n0 hp
/-! has, get, count, sum, find, changed -/
theorem my_has_r {post : Int32 → Prop} {p q : Int32} (h : ¬ mh_rr op p q = 0) (hp : post 0) : wpY_has post (th, vl, cg, op, sl, sc) p q := by
  unfold wpY_has
  dsimp only
  exact my_rr (br_f h hp)
theorem my_has_o {post : Int32 → Prop} {t r : Nat} {b : Bool} (ht : t < 4) (hr : r < 8) (ho : ¬ op t = 0) (hB : th (8 * t + r) = if b = true then 1 else 0) (hp : post (if b = true then 1 else 0)) : wpY_has post (th, vl, cg, op, sl, sc) (nI t) (nI r) := by
  unfold wpY_has
  dsimp only
  rw [mh_iy, nI_clamp (n := 8 * t + r) (by omega)]
  refine my_rr (br_t (mh_rrk ht hr ho) ⟨vp_in_nI (by omega) (by decide), ?_⟩)
  cases hb : b
  · rw [if_neg (mh_nt hb)] at hp; exact br_t (my_b0 hB hb) hp
  · rw [if_pos hb] at hp; exact br_f (my_b1 hB hb) hp
theorem my_get_r {post : Int32 → Prop} {p q : Int32} (h : ¬ mh_rr op p q = 0) (hp : post 0) : wpY_get post (th, vl, cg, op, sl, sc) p q := by
  unfold wpY_get
  dsimp only
  exact my_has_r h (br_t rfl hp)
theorem my_get_o {post : Int32 → Prop} {t r : Nat} {b : Bool} (ht : t < 4) (hr : r < 8) (ho : ¬ op t = 0) (hB : th (8 * t + r) = if b = true then 1 else 0) (hp : post (if b = true then vl (8 * t + r) else 0)) : wpY_get post (th, vl, cg, op, sl, sc) (nI t) (nI r) := by
  unfold wpY_get
  dsimp only
  refine my_has_o ht hr ho hB ?_
  rw [mh_iy, nI_clamp (n := 8 * t + r) (by omega)]
  cases b
  · exact br_t rfl hp
  · exact br_f (by decide) ⟨vp_in_nI (by omega) (by decide), hp⟩
theorem my_ctl {post : Int32 → Prop} {t : Nat} {m : Nat → Bool} (ht : t < 4) (hB : ∀ r, r < 8 → th (8 * t + r) = if m r = true then 1 else 0) (h : post (mh_ct m 8)) : ∀ d i n : Nat, i + d = 8 → d < n → wY_count_17 post (nI t) th vl cg op sl sc n (mh_ct m i) (nI i) := by
  intro d
  induction d with
  | zero =>
    intro i n hi hn
    obtain ⟨n, rfl⟩ : ∃ k, n = k + 1 := ⟨n - 1, by omega⟩
    obtain rfl : i = 8 := by omega
    exact br_t mh_e8 h
  | succ d ih =>
    intro i n hi hn
    obtain ⟨n, rfl⟩ : ∃ k, n = k + 1 := ⟨n - 1, by omega⟩
    have g := ih (i + 1) n (by omega) (by omega)
    rw [wY_count_17]
    dsimp only
    rw [mh_iy, nI_clamp (n := 8 * t + i) (by omega)]
    refine br_f (mh_g8 (by omega)) ⟨vp_in_nI (by omega) (by decide), ?_⟩
    cases hb : m i
    · rw [mh_ctf hb] at g
      exact br_t (my_b0 (hB i (by omega)) hb) (nm_r (nI_1 i) g)
    · rw [mh_ctt hb] at g
      exact br_f (my_b1 (hB i (by omega)) hb) (nm_e (nm_r (nI_1 i) g))
theorem my_count_r {post : Int32 → Prop} {p : Int32} (h : ¬ mh_tr op p = 0) (hp : post (mh_tr op p)) : wpY_count post (th, vl, cg, op, sl, sc) p := by
  unfold wpY_count
  dsimp only
  exact my_tr (br_f h hp)
theorem my_count_o {post : Int32 → Prop} {t : Nat} {m : Nat → Bool} (ht : t < 4) (ho : ¬ op t = 0) (hB : ∀ r, r < 8 → th (8 * t + r) = if m r = true then 1 else 0) (hp : post (mh_ct m 8)) : wpY_count post (th, vl, cg, op, sl, sc) (nI t) := by
  unfold wpY_count
  dsimp only
  exact my_tr (br_t (mh_trk ht ho) ⟨9, my_ctl ht hB hp 8 0 9 (by omega) (by omega)⟩)
theorem my_sml {post : Int32 → Prop} {p : Int32} {f : Nat → Int32} (hg : ∀ (P : Int32 → Prop) (r : Nat), r < 8 → P (f r) → wpY_get P (th, vl, cg, op, sl, sc) p (nI r)) (h : post (mh_sm f 8)) : ∀ d i n : Nat, i + d = 8 → d < n → wY_sum_4 post p th vl cg op sl sc n (mh_sm f i) (nI i) := by
  intro d
  induction d with
  | zero =>
    intro i n hi hn
    obtain ⟨n, rfl⟩ : ∃ k, n = k + 1 := ⟨n - 1, by omega⟩
    obtain rfl : i = 8 := by omega
    exact br_t mh_e8 h
  | succ d ih =>
    intro i n hi hn
    obtain ⟨n, rfl⟩ : ∃ k, n = k + 1 := ⟨n - 1, by omega⟩
    have g := ih (i + 1) n (by omega) (by omega)
    rw [mh_sm] at g
    rw [wY_sum_4]
    exact br_f (mh_g8 (by omega)) (hg _ i (by omega) (nm_e (nm_r (nI_1 i) g)))
theorem my_sum_r {post : Int32 → Prop} {p : Int32} (h : ¬ mh_tr op p = 0) (hp : post 0) : wpY_sum post (th, vl, cg, op, sl, sc) p := by
  unfold wpY_sum
  dsimp only
  refine ⟨9, my_sml (f := fun _ => 0) (fun P r hr hP => my_get_r ?_ hP) ?_ 8 0 9 (by omega) (by omega)⟩
  · unfold mh_rr
    rw [if_neg h]
    exact h
  · rw [show mh_sm (fun _ => 0) 8 = 0 by decide]
    exact hp
theorem my_sum_o {post : Int32 → Prop} {t : Nat} {m : Nat → Bool} (ht : t < 4) (ho : ¬ op t = 0) (hB : ∀ r, r < 8 → th (8 * t + r) = if m r = true then 1 else 0) (hp : post (mh_sm (fun r => if m r = true then vl (8 * t + r) else 0) 8)) : wpY_sum post (th, vl, cg, op, sl, sc) (nI t) := by
  unfold wpY_sum
  dsimp only
  exact ⟨9, my_sml (f := fun r => if m r = true then vl (8 * t + r) else 0) (fun P r hr hP => my_get_o ht hr ho (hB r hr) hP) hp 8 0 9 (by omega) (by omega)⟩
theorem my_fdl {post : Int32 → Prop} {t : Nat} {p q : Int32} {m : Nat → Bool} {f : Nat → Int32} (ht : t < 4) (hB : ∀ r, r < 8 → th (8 * t + r) = if m r = true then 1 else 0) (hV : ∀ r, r < 8 → m r = true → vl (8 * t + r) = f r) : ∀ d i n : Nat, i + d = 8 → d < n → post (mh_fd m f p q d i) → wY_find_18 post (nI t) p q th vl cg op sl sc n (nI i) := by
  intro d
  induction d with
  | zero =>
    intro i n hi hn h
    obtain ⟨n, rfl⟩ : ∃ k, n = k + 1 := ⟨n - 1, by omega⟩
    obtain rfl : i = 8 := by omega
    exact br_t mh_e8 h
  | succ d ih =>
    intro i n hi hn h
    obtain ⟨n, rfl⟩ : ∃ k, n = k + 1 := ⟨n - 1, by omega⟩
    unfold mh_fd at h
    rw [wY_find_18]
    dsimp only
    rw [mh_iy, nI_clamp (n := 8 * t + i) (by omega)]
    have hi1 : vp_in (nI (8 * t + i)) 136 := vp_in_nI (by omega) (by decide)
    refine br_f (mh_g8 (by omega)) ?_
    by_cases hf : nI i < p
    · rw [if_pos hf] at h
      exact br_t hf (nm_r (nI_1 i) (ih (i + 1) n (by omega) (by omega) h))
    · rw [if_neg hf] at h
      refine br_f hf ⟨hi1, ?_⟩
      cases hb : m i
      · rw [if_neg (mh_nt hb)] at h
        exact br_t (my_b0 (hB i (by omega)) hb) (nm_r (nI_1 i) (ih (i + 1) n (by omega) (by omega) h))
      · rw [if_pos hb] at h
        refine br_f (my_b1 (hB i (by omega)) hb) ⟨hi1, ?_⟩
        rw [hV i (by omega) hb]
        by_cases hv : f i < q
        · rw [if_pos hv] at h
          exact br_t hv (nm_r (nI_1 i) (ih (i + 1) n (by omega) (by omega) h))
        · rw [if_neg hv] at h
          exact br_f hv h
theorem my_find_r {post : Int32 → Prop} {p q w : Int32} (h : ¬ mh_tr op p = 0) (hp : post (mh_tr op p)) : wpY_find post (th, vl, cg, op, sl, sc) p q w := by
  unfold wpY_find
  dsimp only
  exact my_tr (br_f h hp)
theorem my_find_o {post : Int32 → Prop} {t : Nat} {q w : Int32} {m : Nat → Bool} {f : Nat → Int32} (ht : t < 4) (ho : ¬ op t = 0) (hB : ∀ r, r < 8 → th (8 * t + r) = if m r = true then 1 else 0) (hV : ∀ r, r < 8 → m r = true → vl (8 * t + r) = f r) (hp : post (mh_fd m f q w 8 0)) : wpY_find post (th, vl, cg, op, sl, sc) (nI t) q w := by
  unfold wpY_find
  dsimp only
  exact my_tr (br_t (mh_trk ht ho) ⟨9, my_fdl ht hB hV 8 0 9 (by omega) (by omega) hp⟩)
theorem my_changed_r {post : Int32 → Prop} {p : Int32} (h : ¬ mh_tr op p = 0) (hp : post (mh_tr op p)) : wpY_changed post (th, vl, cg, op, sl, sc) p := by
  unfold wpY_changed
  dsimp only
  exact my_tr (br_f h hp)
theorem my_changed_o {post : Int32 → Prop} {t : Nat} (ht : t < 4) (ho : ¬ op t = 0) (hp : post (cg t)) : wpY_changed post (th, vl, cg, op, sl, sc) (nI t) := by
  unfold wpY_changed
  dsimp only
  refine my_tr (br_t (mh_trk ht ho) ⟨vp_in_nI (by omega) (by decide), ?_⟩)
  rw [nI_clamp (n := t) (by omega)]
  exact hp
/-! save, back -/
theorem my_save_r {post : Int32 → SY → Prop} {p : Int32} (h : ¬ mh_tr op p = 0) (hp : post (mh_tr op p) (th, vl, cg, op, sl, sc)) : wpY_save post (th, vl, cg, op, sl, sc) p := by
  unfold wpY_save
  dsimp only
  exact my_tr (br_f h hp)
theorem my_save_f {post : Int32 → SY → Prop} {t : Nat} (ht : t < 4) (ho : ¬ op t = 0) (hs : sc t = nI 3) (hp : post (-6) (th, vl, cg, op, sl, sc)) : wpY_save post (th, vl, cg, op, sl, sc) (nI t) := by
  unfold wpY_save
  dsimp only
  rw [nI_clamp (n := t) (by omega)]
  exact my_tr (br_t (mh_trk ht ho) ⟨vp_in_nI ht (by decide), br_t hs hp⟩)
theorem my_save_o {post : Int32 → SY → Prop} {t k : Nat} (ht : t < 4) (ho : ¬ op t = 0) (hk : k < 3) (hs : sc t = nI k) (hn : ∀ r, r < 8 → vp_nar .boolean (th (8 * t + r)) = th (8 * t + r)) (hp : post (nI k + 1) (mh_fl th (8 * (5 + (3 * t + k))) (fun r => th (8 * t + r)) mh_T 8, mh_fl vl (8 * (5 + (3 * t + k))) (fun r => vl (8 * t + r)) mh_T 8, upd cg (5 + (3 * t + k)) (cg t), op, sl, upd sc t (nI k + 1))) : wpY_save post (th, vl, cg, op, sl, sc) (nI t) := by
  unfold wpY_save
  dsimp only
  have hi : vp_in (nI t) 4 := vp_in_nI ht (by decide)
  rw [nI_clamp (n := t) (by omega), hs, mh_i5]
  refine my_tr (br_t (mh_trk ht ho) ⟨hi, br_f (fun z => absurd ((nI_eq (b := 3) (by omega) (by decide)).mp z) (by omega)) ⟨hi, ?_⟩⟩)
  refine my_copy (by omega) (by omega) (by omega) hn ?_
  dsimp only
  refine ⟨hi, hi, nm_r (e' := upd sc t (nI k + 1)) (by rw [hs]) ⟨hi, ?_⟩⟩
  rw [pk_us]
  exact hp
theorem my_back_r {post : Int32 → SY → Prop} {p : Int32} (h : ¬ mh_tr op p = 0) (hp : post (mh_tr op p) (th, vl, cg, op, sl, sc)) : wpY_back post (th, vl, cg, op, sl, sc) p := by
  unfold wpY_back
  dsimp only
  exact my_tr (br_f h hp)
theorem my_back_z {post : Int32 → SY → Prop} {t : Nat} (ht : t < 4) (ho : ¬ op t = 0) (hs : sc t = nI 0) (hp : post (-3) (th, vl, cg, op, sl, sc)) : wpY_back post (th, vl, cg, op, sl, sc) (nI t) := by
  unfold wpY_back
  dsimp only
  rw [nI_clamp (n := t) (by omega)]
  exact my_tr (br_t (mh_trk ht ho) ⟨vp_in_nI ht (by decide), br_t hs hp⟩)
theorem my_back_o {post : Int32 → SY → Prop} {t k : Nat} (ht : t < 4) (ho : ¬ op t = 0) (hk : k < 3) (hs : sc t = nI (k + 1)) (hn : ∀ r, r < 8 → vp_nar .boolean (th (8 * (5 + (3 * t + k)) + r)) = th (8 * (5 + (3 * t + k)) + r)) (hp : post (nI k) (mh_fl th (8 * t) (fun r => th (8 * (5 + (3 * t + k)) + r)) mh_T 8, mh_fl vl (8 * t) (fun r => vl (8 * (5 + (3 * t + k)) + r)) mh_T 8, upd cg t (cg (5 + (3 * t + k))), op, sl, upd sc t (nI k))) : wpY_back post (th, vl, cg, op, sl, sc) (nI t) := by
  unfold wpY_back
  dsimp only
  have hi : vp_in (nI t) 4 := vp_in_nI ht (by decide)
  rw [nI_clamp (n := t) (by omega), hs, nI_pred]
  refine my_tr (br_t (mh_trk ht ho) ⟨hi, br_f (fun z => absurd ((nI_eq (b := 0) (by omega) (by decide)).mp z) (by omega)) ⟨hi, hi, nm_e ⟨hi, ?_⟩⟩⟩)
  rw [pk_us, mh_i5]
  refine my_copy (by omega) (by omega) (by omega) hn ?_
  dsimp only
  refine ⟨hi, ?_⟩
  rw [pk_us]
  exact hp
end
