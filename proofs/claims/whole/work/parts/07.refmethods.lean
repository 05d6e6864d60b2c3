/-! ===== the reference's methods, the rest ===== -/
section
variable {st sv ch th vl cg op sl sc : Nat → Int32}
theorem my_abort_r {post : Int32 → SY → Prop} {p : Int32} (h : ¬ mh_tr op p = 0) (hp : post (mh_tr op p) (th, vl, cg, op, sl, sc)) : wpY_abort post (th, vl, cg, op, sl, sc) p := by
  unfold wpY_abort
  dsimp only
  exact my_tr (br_f h hp)
theorem my_abort_o {post : Int32 → SY → Prop} {t : Nat} (ht : t < 4) (ho : ¬ op t = 0) (hp : post (mh_ct (bt (cg t)) 8) (th, vl, cg, upd op t 0, sl, sc)) : wpY_abort post (th, vl, cg, op, sl, sc) (nI t) := by
  unfold wpY_abort
  dsimp only
  rw [nI_clamp (n := t) (by omega), mh_n0]
  exact my_tr (br_t (mh_trk ht ho) ⟨vp_in_nI ht (by decide), nm_e ⟨vp_in_nI (by omega) (by decide), my_sz hp⟩⟩)
theorem my_c82 {post : Int32 → SY → Prop} {t : Nat} (ht : t < 4) (ho : ¬ op t = 0) (h : post (mh_ct (bt (cg t)) 8) (th, vl, cg, upd op t 0, mh_fl sl 0 (fun j => sl j ||| cg t) mh_T 4, sc)) : ∀ d i n : Nat, i + d = 4 → d < n → wY_commit_82 post (nI t) n (nI i) th vl cg op (mh_fl sl 0 (fun j => sl j ||| cg t) mh_T i) sc := by
  intro d
  induction d with
  | zero =>
    intro i n hi hn
    obtain ⟨n, rfl⟩ : ∃ k, n = k + 1 := ⟨n - 1, by omega⟩
    obtain rfl : i = 4 := by omega
    exact br_t mh_e4 (my_abort_o ht ho h)
  | succ d ih =>
    intro i n hi hn
    obtain ⟨n, rfl⟩ : ∃ k, n = k + 1 := ⟨n - 1, by omega⟩
    have g := ih (i + 1) n (by omega) (by omega)
    rw [← mh_flS0 rfl] at g
    rw [wY_commit_82]
    dsimp only
    rw [nI_clamp (n := i) (by omega), nI_clamp (n := t) (by omega), mh_flo (j := i) (by omega)]
    have hi : vp_in (nI i) 4 := vp_in_nI (by omega) (by decide)
    exact br_f (mh_g4 (by omega)) ⟨hi, vp_in_nI (by omega) (by decide), hi, nm_e (nm_r (nI_1 i) g)⟩
theorem my_c14 {post : Int32 → SY → Prop} {t : Nat} (ht : t < 4) (ho : ¬ op t = 0) (hn : ∀ r, r < 8 → vp_nar .boolean (th (8 * t + r)) = th (8 * t + r)) (h : post (mh_ct (bt (cg t)) 8) (mh_fl th 32 (fun r => th (8 * t + r)) (bt (cg t)) 8, mh_fl vl 32 (fun r => vl (8 * t + r)) (bt (cg t)) 8, cg, upd op t 0, mh_fl sl 0 (fun j => sl j ||| cg t) mh_T 4, sc)) : ∀ d i n : Nat, i + d = 8 → d < n → wY_commit_14 post (nI t) n (nI i) (mh_fl th 32 (fun r => th (8 * t + r)) (bt (cg t)) i) (mh_fl vl 32 (fun r => vl (8 * t + r)) (bt (cg t)) i) cg op sl sc := by
  intro d
  induction d with
  | zero =>
    intro i n hi hk
    obtain ⟨n, rfl⟩ : ∃ k, n = k + 1 := ⟨n - 1, by omega⟩
    obtain rfl : i = 8 := by omega
    have g := my_c82 ht ho h 4 0 5 (by omega) (by omega)
    rw [mh_fl0] at g
    exact br_t mh_e8 ⟨5, g⟩
  | succ d ih =>
    intro i n hi hk
    obtain ⟨n, rfl⟩ : ∃ k, n = k + 1 := ⟨n - 1, by omega⟩
    have g := ih (i + 1) n (by omega) (by omega)
    rw [wY_commit_14]
    dsimp only
    rw [mh_iy, mh_32, nI_clamp (n := t) (by omega), nI_clamp (n := 8 * t + i) (by omega), nI_clamp (n := 32 + i) (by omega), mh_flo (f := th) (j := 8 * t + i) (by omega), mh_flo (f := vl) (j := 8 * t + i) (by omega), hn i (by omega)]
    have h1 : vp_in (nI (8 * t + i)) 136 := vp_in_nI (by omega) (by decide)
    have h2 : vp_in (nI (32 + i)) 136 := vp_in_nI (by omega) (by decide)
    refine br_f (mh_g8 (by omega)) ⟨vp_in_nI (by omega) (by decide), ?_⟩
    cases hb : bt (cg t) i
    · rw [← mh_flN (f := th) (Or.inl hb), ← mh_flN (f := vl) (Or.inl hb)] at g
      exact br_f (mh_bf (by omega) hb) (nm_r (nI_1 i) g)
    · rw [← mh_flS (f := th) hb, ← mh_flS (f := vl) hb] at g
      exact br_t (mh_bt (by omega) hb) ⟨h1, h2, nm_e ⟨h1, h2, nm_e (nm_r (nI_1 i) g)⟩⟩
theorem my_commit_r {post : Int32 → SY → Prop} {p : Int32} (h : ¬ mh_tr op p = 0) (hp : post (mh_tr op p) (th, vl, cg, op, sl, sc)) : wpY_commit post (th, vl, cg, op, sl, sc) p := by
  unfold wpY_commit
  dsimp only
  exact my_tr (br_f h hp)
theorem my_commit_o {post : Int32 → SY → Prop} {t : Nat} (ht : t < 4) (ho : ¬ op t = 0) (hn : ∀ r, r < 8 → vp_nar .boolean (th (8 * t + r)) = th (8 * t + r)) (h : post (mh_ct (bt (cg t)) 8) (mh_fl th 32 (fun r => th (8 * t + r)) (bt (cg t)) 8, mh_fl vl 32 (fun r => vl (8 * t + r)) (bt (cg t)) 8, cg, upd op t 0, mh_fl sl 0 (fun j => sl j ||| cg t) mh_T 4, sc)) : wpY_commit post (th, vl, cg, op, sl, sc) (nI t) := by
  unfold wpY_commit
  dsimp only
  have g := my_c14 ht ho hn h 8 0 9 (by omega) (by omega)
  rw [mh_fl0, mh_fl0] at g
  exact my_tr (br_t (mh_trk ht ho) ⟨9, g⟩)
theorem my_crl {post : Int32 → SY → Prop} (h : post (mh_ct (fun t => !decide (op t = 0)) 4) (th, vl, cg, mh_fl op 0 (fun _ => 0) mh_T 4, sl, sc)) : ∀ d i n : Nat, i + d = 4 → d < n → wY_crash_4 post n (mh_ct (fun t => !decide (op t = 0)) i) (nI i) th vl cg (mh_fl op 0 (fun _ => 0) mh_T i) sl sc := by
  intro d
  induction d with
  | zero =>
    intro i n hi hn
    obtain ⟨n, rfl⟩ : ∃ k, n = k + 1 := ⟨n - 1, by omega⟩
    obtain rfl : i = 4 := by omega
    exact br_t mh_e4 h
  | succ d ih =>
    intro i n hi hn
    obtain ⟨n, rfl⟩ : ∃ k, n = k + 1 := ⟨n - 1, by omega⟩
    have g := ih (i + 1) n (by omega) (by omega)
    rw [← mh_flS0 rfl] at g
    rw [wY_crash_4]
    dsimp only
    unfold wY_crash_25
    rw [nI_clamp (n := i) (by omega), mh_flo (j := i) (by omega), mh_n0]
    have hi : vp_in (nI i) 4 := vp_in_nI (by omega) (by decide)
    refine br_f (mh_g4 (by omega)) ⟨hi, ?_⟩
    by_cases ho : op i = 0
    · rw [mh_ctf (by rw [decide_eq_true ho]; rfl)] at g
      exact br_t ho ⟨hi, nm_e (nm_r (nI_1 i) g)⟩
    · rw [mh_ctt (by rw [decide_eq_false ho]; rfl)] at g
      exact br_f ho ⟨hi, nm_e (nm_r (nI_1 i) g)⟩
theorem my_crash {post : Int32 → SY → Prop} (h : post (mh_ct (fun t => !decide (op t = 0)) 4) (th, vl, cg, mh_fl op 0 (fun _ => 0) mh_T 4, sl, sc)) : wpY_crash post (th, vl, cg, op, sl, sc) := by
  unfold wpY_crash
  dsimp only
  have g := my_crl h 4 0 5 (by omega) (by omega)
  rw [mh_fl0] at g
  exact ⟨5, g⟩
theorem my_committed_r {post : Int32 → Prop} {q : Int32} (h : q < 0 ∨ 8 ≤ q) (hp : post 0) : wpY_committed post (th, vl, cg, op, sl, sc) q := by
  unfold wpY_committed
  dsimp only
  by_cases h0 : q < 0
  · exact br_t h0 hp
  · refine br_f h0 (br_t ?_ hp)
    exact Int32.lt_of_lt_of_le (by decide) (h.resolve_left h0)
theorem my_committed_o {post : Int32 → Prop} {r : Nat} {b : Bool} (hr : r < 8) (hB : th (32 + r) = if b = true then 1 else 0) (hp : post (if b = true then vl (32 + r) else 0)) : wpY_committed post (th, vl, cg, op, sl, sc) (nI r) := by
  unfold wpY_committed
  dsimp only
  rw [mh_32, nI_clamp (n := 32 + r) (by omega)]
  have h1 : vp_in (nI (32 + r)) 136 := vp_in_nI (by omega) (by decide)
  refine br_f (nI_pos (by omega)) (br_f (nI_nlt (a := 7) (b := r) (by omega) (by omega)) ⟨h1, ?_⟩)
  cases hb : b
  · rw [if_neg (mh_nt hb)] at hp; exact br_t (my_b0 hB hb) hp
  · rw [if_pos hb] at hp; exact br_f (my_b1 hB hb) ⟨h1, hp⟩
theorem my_rwl {post : Int32 → Prop} {m : Nat → Bool} (hB : ∀ r, r < 8 → th (32 + r) = if m r = true then 1 else 0) (h : post (mh_ct m 8)) : ∀ d i n : Nat, i + d = 8 → d < n → wY_rows_4 post th vl cg op sl sc n (mh_ct m i) (nI i) := by
  intro d
  induction d with
  | zero =>
    intro i n hi hn
    obtain ⟨n, rfl⟩ : ∃ k, n = k + 1 := ⟨n - 1, by omega⟩
    obtain rfl : i = 8 := by omega
    exact br_t mh_e8 h
  | succ d ih =>
    intro i n hi hn
    obtain ⟨n, rfl⟩ : ∃ k, n = k + 1 := ⟨n - 1, by omega⟩
    have g := ih (i + 1) n (by omega) (by omega)
    rw [wY_rows_4]
    dsimp only
    rw [mh_32, nI_clamp (n := 32 + i) (by omega)]
    refine br_f (mh_g8 (by omega)) ⟨vp_in_nI (by omega) (by decide), ?_⟩
    cases hb : m i
    · rw [mh_ctf hb] at g
      exact br_t (my_b0 (hB i (by omega)) hb) (nm_r (nI_1 i) g)
    · rw [mh_ctt hb] at g
      exact br_f (my_b1 (hB i (by omega)) hb) (nm_e (nm_r (nI_1 i) g))
theorem my_rows {post : Int32 → Prop} {m : Nat → Bool} (hB : ∀ r, r < 8 → th (32 + r) = if m r = true then 1 else 0) (h : post (mh_ct m 8)) : wpY_rows post (th, vl, cg, op, sl, sc) := by
  unfold wpY_rows
  exact ⟨9, my_rwl hB h 8 0 9 (by omega) (by omega)⟩
end
