/-! ===== what is owed ===== -/
/-- isOpen, stale, saves are the same functions; the rest by mh_R -/
def i_Rel (_ : Nat) (u : SX) (v : SY) : Prop := ∃ (c : Int32) (cv op st sv ch sl sc dt dc dv th vl cg : Nat → Int32), u = (c, cv, op, st, sv, ch, sl, sc, dt, dc, dv) ∧ v = (th, vl, cg, op, sl, sc) ∧ mh_R c cv st sv ch sc dt dc dv th vl cg
theorem mr_i {k : Nat} {c : Int32} {cv op st sv ch sl sc dt dc dv th vl cg : Nat → Int32} (R : mh_R c cv st sv ch sc dt dc dv th vl cg) : i_Rel k (c, cv, op, st, sv, ch, sl, sc, dt, dc, dv) (th, vl, cg, op, sl, sc) := ⟨c, cv, op, st, sv, ch, sl, sc, dt, dc, dv, th, vl, cg, rfl, rfl, R⟩
theorem mr_self (f : Nat → Int32) (k : Nat) : upd f k (f k) = f := by
  funext j
  by_cases e : j = k
  · subst e; exact pk_us
  · exact pk_un e
theorem mr_0 : mh_R 0 (fun _ => 0) (fun _ => 0) (fun _ => 0) (fun _ => 0) (fun _ => 0) (fun _ => 0) (fun _ => 0) (fun _ => 0) (fun _ => 0) (fun _ => 0) (fun _ => 0) := by
  have h : ∀ k, mh_S 0 (fun _ => 0) (fun _ => 0) (fun _ => 0) k := fun k r _ => ⟨by rw [b_0]; rfl, fun _ => rfl⟩
  exact ⟨fun t _ => h t, h 4, fun j _ => h (5 + j), fun _ _ => rfl, fun _ _ => rfl, fun _ _ => ⟨0, by omega, rfl⟩⟩
theorem i_up {k : Nat} {u : SX} {v : SY} (h : i_Rel k u v) : i_Rel (k + 4) u v := h
theorem i_vc0 : wpX_init (fun u => wpY_init (fun v => i_Rel 0 u v)) := mr_i (k := 0) mr_0
theorem i_vc_open {k : Nat} {u : SX} {v : SY} (I : i_Rel k u v) (hk : k + 4 ≤ 2048) (v1 : Int32) : wpX_open (fun r u' => wpY_open (fun r' v' => r' = r ∧ i_Rel (k + 4) u' v') v v1) u v1 := by
  obtain ⟨c, cv, op, st, sv, ch, sl, sc, dt, dc, dv, th, vl, cg, rfl, rfl, R⟩ := I
  by_cases h2 : mh_tr op v1 = -2
  · obtain ⟨t, ht, rfl, ho⟩ := mh_tr2 h2
    exact mx_open_o ht ho (my_open_o ht ho (mr_nar R.2.1) ⟨rfl, mr_i (mr_open R ht)⟩)
  · by_cases h : mh_tr op v1 = 0
    · obtain ⟨t, ht, rfl, ho⟩ := mh_tr0 h
      exact mx_open_c ht ho (my_open_c h ⟨rfl, mr_i R⟩)
    · obtain ⟨hb, e⟩ := mh_tr1 h h2
      exact mx_open_b hb (my_open_b h h2 ⟨e, mr_i R⟩)
theorem i_vc_put {k : Nat} {u : SX} {v : SY} (I : i_Rel k u v) (hk : k + 4 ≤ 2048) (v1 : Int32) (v2 : Int32) (v3 : Int32) : wpX_put (fun r u' => wpY_put (fun r' v' => r' = r ∧ i_Rel (k + 4) u' v') v v1 v2 v3) u v1 v2 v3 := by
  obtain ⟨c, cv, op, st, sv, ch, sl, sc, dt, dc, dv, th, vl, cg, rfl, rfl, R⟩ := I
  by_cases h : mh_pf op ch sl v1 v2 = 0
  · obtain ⟨t, r, ht, hr, rfl, rfl, ho, hc⟩ := mh_pf0 h
    refine mx_put_o ht hr h (my_put_o (mr_C R) (mr_B R) ht hr h ⟨rfl, mr_i (mr_cell R ht hr ?_ ?_ ?_ ?_)⟩)
    · rw [mh_set (st t) hr hr, decide_eq_true rfl, Bool.or_true, if_pos rfl]
    · exact fun _ => pk_us.symm
    · intro q hq hn
      rw [mh_set (st t) hr hq, decide_eq_false hn, Bool.or_false]
    · exact fun q hq => pk_un hq
  · exact mx_put_r h (my_put_r (mr_C R) h ⟨rfl, mr_i R⟩)
theorem i_vc_add {k : Nat} {u : SX} {v : SY} (I : i_Rel k u v) (hk : k + 4 ≤ 2048) (v1 : Int32) (v2 : Int32) (v3 : Int32) : wpX_add (fun r u' => wpY_add (fun r' v' => r' = r ∧ i_Rel (k + 4) u' v') v v1 v2 v3) u v1 v2 v3 := by
  obtain ⟨c, cv, op, st, sv, ch, sl, sc, dt, dc, dv, th, vl, cg, rfl, rfl, R⟩ := I
  by_cases h : mh_ef op st ch sl v1 v2 = 0
  · obtain ⟨t, r, ht, hr, rfl, rfl, ho, hb⟩ := mh_ef0 h
    have g := mr_cell (s' := st t) (x := 1) (y := vl (8 * t + r) + v3) (z := ((1 : Int32) <<< (nI r &&& 31))) (sv' := upd sv (8 * t + r) (sv (8 * t + r) + v3)) R ht hr (by rw [if_pos hb]) (fun _ => by rw [pk_us, (R.1 t ht r hr).2 hb]) (fun _ _ _ => rfl) (fun q hq => pk_un hq)
    rw [mr_self] at g
    exact mx_add_o ht hr h (my_add_o (mr_C R) (mr_B R) ht hr h ⟨rfl, mr_i g⟩)
  · exact mx_add_r h (my_add_r (mr_C R) (mr_B R) h ⟨rfl, mr_i R⟩)
theorem i_vc_drop {k : Nat} {u : SX} {v : SY} (I : i_Rel k u v) (hk : k + 4 ≤ 2048) (v1 : Int32) (v2 : Int32) : wpX_drop (fun r u' => wpY_drop (fun r' v' => r' = r ∧ i_Rel (k + 4) u' v') v v1 v2) u v1 v2 := by
  obtain ⟨c, cv, op, st, sv, ch, sl, sc, dt, dc, dv, th, vl, cg, rfl, rfl, R⟩ := I
  by_cases h : mh_ef op st ch sl v1 v2 = 0
  · obtain ⟨t, r, ht, hr, rfl, rfl, ho, hb⟩ := mh_ef0 h
    have hf : bt (st t &&& (((1 : Int32) <<< (nI r &&& 31)) ^^^ (-1))) r = false := by
      rw [mh_clr (st t) hr hr, decide_eq_true rfl, Bool.not_true, Bool.and_false]
    refine mx_drop_o ht hr h (my_drop_o (mr_C R) (mr_B R) ht hr h ⟨rfl, mr_i (mr_cell R ht hr ?_ ?_ ?_ ?_)⟩)
    · rw [if_neg (mh_nt hf)]
    · exact fun z => absurd z (mh_nt hf)
    · intro q hq hn
      rw [mh_clr (st t) hr hq, decide_eq_false hn, Bool.not_false, Bool.and_true]
    · exact fun q hq => rfl
  · exact mx_drop_r h (my_drop_r (mr_C R) (mr_B R) h ⟨rfl, mr_i R⟩)
theorem i_vc_get {k : Nat} {u : SX} {v : SY} (I : i_Rel k u v) (hk : k + 4 ≤ 2048) (v1 : Int32) (v2 : Int32) : wpX_get (fun r => wpY_get (fun r' => r' = r ∧ i_Rel (k + 4) u v) v v1 v2) u v1 v2 := by
  obtain ⟨c, cv, op, st, sv, ch, sl, sc, dt, dc, dv, th, vl, cg, rfl, rfl, R⟩ := I
  by_cases h : mh_rr op v1 v2 = 0
  · obtain ⟨t, r, ht, hr, rfl, rfl, ho⟩ := mh_rr0 h
    refine mx_get_o ht hr ho (my_get_o ht hr ho (mr_B R t ht r hr) ⟨?_, mr_i R⟩)
    cases hb : bt (st t) r
    · rfl
    · exact (R.1 t ht r hr).2 hb
  · exact mx_get_r h (my_get_r h ⟨rfl, mr_i R⟩)
theorem i_vc_has {k : Nat} {u : SX} {v : SY} (I : i_Rel k u v) (hk : k + 4 ≤ 2048) (v1 : Int32) (v2 : Int32) : wpX_has (fun r => wpY_has (fun r' => r' = r ∧ i_Rel (k + 4) u v) v v1 v2) u v1 v2 := by
  obtain ⟨c, cv, op, st, sv, ch, sl, sc, dt, dc, dv, th, vl, cg, rfl, rfl, R⟩ := I
  by_cases h : mh_rr op v1 v2 = 0
  · obtain ⟨t, r, ht, hr, rfl, rfl, ho⟩ := mh_rr0 h
    exact mx_has_o ht hr ho (my_has_o ht hr ho (mr_B R t ht r hr) ⟨rfl, mr_i R⟩)
  · exact mx_has_r h (my_has_r h ⟨rfl, mr_i R⟩)
theorem i_vc_count {k : Nat} {u : SX} {v : SY} (I : i_Rel k u v) (hk : k + 4 ≤ 2048) (v1 : Int32) : wpX_count (fun r => wpY_count (fun r' => r' = r ∧ i_Rel (k + 4) u v) v v1) u v1 := by
  obtain ⟨c, cv, op, st, sv, ch, sl, sc, dt, dc, dv, th, vl, cg, rfl, rfl, R⟩ := I
  by_cases h : mh_tr op v1 = 0
  · obtain ⟨t, ht, rfl, ho⟩ := mh_tr0 h
    exact mx_count_o ht ho (my_count_o ht ho (mr_B R t ht) ⟨rfl, mr_i R⟩)
  · exact mx_count_r h (my_count_r h ⟨rfl, mr_i R⟩)
theorem i_vc_sum {k : Nat} {u : SX} {v : SY} (I : i_Rel k u v) (hk : k + 4 ≤ 2048) (v1 : Int32) : wpX_sum (fun r => wpY_sum (fun r' => r' = r ∧ i_Rel (k + 4) u v) v v1) u v1 := by
  obtain ⟨c, cv, op, st, sv, ch, sl, sc, dt, dc, dv, th, vl, cg, rfl, rfl, R⟩ := I
  by_cases h : mh_tr op v1 = 0
  · obtain ⟨t, ht, rfl, ho⟩ := mh_tr0 h
    refine mx_sum_o ht ho (my_sum_o ht ho (mr_B R t ht) ⟨mh_smc (fun r hr => ?_), mr_i R⟩)
    cases hb : bt (st t) r
    · rfl
    · exact (R.1 t ht r hr).2 hb
  · exact mx_sum_r h (my_sum_r h ⟨rfl, mr_i R⟩)
theorem i_vc_find {k : Nat} {u : SX} {v : SY} (I : i_Rel k u v) (hk : k + 4 ≤ 2048) (v1 : Int32) (v2 : Int32) (v3 : Int32) : wpX_find (fun r => wpY_find (fun r' => r' = r ∧ i_Rel (k + 4) u v) v v1 v2 v3) u v1 v2 v3 := by
  obtain ⟨c, cv, op, st, sv, ch, sl, sc, dt, dc, dv, th, vl, cg, rfl, rfl, R⟩ := I
  by_cases h : mh_tr op v1 = 0
  · obtain ⟨t, ht, rfl, ho⟩ := mh_tr0 h
    exact mx_find_o ht ho (my_find_o ht ho (mr_B R t ht) (fun r hr => (R.1 t ht r hr).2) ⟨rfl, mr_i R⟩)
  · exact mx_find_r h (my_find_r h ⟨rfl, mr_i R⟩)
theorem i_vc_changed {k : Nat} {u : SX} {v : SY} (I : i_Rel k u v) (hk : k + 4 ≤ 2048) (v1 : Int32) : wpX_changed (fun r => wpY_changed (fun r' => r' = r ∧ i_Rel (k + 4) u v) v v1) u v1 := by
  obtain ⟨c, cv, op, st, sv, ch, sl, sc, dt, dc, dv, th, vl, cg, rfl, rfl, R⟩ := I
  by_cases h : mh_tr op v1 = 0
  · obtain ⟨t, ht, rfl, ho⟩ := mh_tr0 h
    exact mx_changed_o ht ho (my_changed_o ht ho ⟨mr_C R t ht, mr_i R⟩)
  · exact mx_changed_r h (my_changed_r h ⟨rfl, mr_i R⟩)
theorem i_vc_save {k : Nat} {u : SX} {v : SY} (I : i_Rel k u v) (hk : k + 4 ≤ 2048) (v1 : Int32) : wpX_save (fun r u' => wpY_save (fun r' v' => r' = r ∧ i_Rel (k + 4) u' v') v v1) u v1 := by
  obtain ⟨c, cv, op, st, sv, ch, sl, sc, dt, dc, dv, th, vl, cg, rfl, rfl, R⟩ := I
  by_cases h : mh_tr op v1 = 0
  · obtain ⟨t, ht, rfl, ho⟩ := mh_tr0 h
    obtain ⟨m, hm, hs⟩ := R.2.2.2.2.2 t ht
    by_cases e : m = 3
    · subst e
      exact mx_save_f ht ho hs (my_save_f ht ho hs ⟨rfl, mr_i R⟩)
    · have hm3 : m < 3 := by omega
      exact mx_save_o ht ho hm3 hs (my_save_o ht ho hm3 hs (mr_nar (R.1 t ht)) ⟨rfl, mr_i (mr_save R ht hm3)⟩)
  · exact mx_save_r h (my_save_r h ⟨rfl, mr_i R⟩)
theorem i_vc_back {k : Nat} {u : SX} {v : SY} (I : i_Rel k u v) (hk : k + 4 ≤ 2048) (v1 : Int32) : wpX_back (fun r u' => wpY_back (fun r' v' => r' = r ∧ i_Rel (k + 4) u' v') v v1) u v1 := by
  obtain ⟨c, cv, op, st, sv, ch, sl, sc, dt, dc, dv, th, vl, cg, rfl, rfl, R⟩ := I
  by_cases h : mh_tr op v1 = 0
  · obtain ⟨t, ht, rfl, ho⟩ := mh_tr0 h
    obtain ⟨m, hm, hs⟩ := R.2.2.2.2.2 t ht
    cases m with
    | zero => exact mx_back_z ht ho hs (my_back_z ht ho hs ⟨rfl, mr_i R⟩)
    | succ m =>
      have hm3 : m < 3 := by omega
      exact mx_back_o ht ho hm3 hs (my_back_o ht ho hm3 hs (mr_nar (R.2.2.1 (3 * t + m) (by omega))) ⟨rfl, mr_i (mr_back R ht hm3)⟩)
  · exact mx_back_r h (my_back_r h ⟨rfl, mr_i R⟩)
theorem i_vc_commit {k : Nat} {u : SX} {v : SY} (I : i_Rel k u v) (hk : k + 4 ≤ 2048) (v1 : Int32) : wpX_commit (fun r u' => wpY_commit (fun r' v' => r' = r ∧ i_Rel (k + 4) u' v') v v1) u v1 := by
  obtain ⟨c, cv, op, st, sv, ch, sl, sc, dt, dc, dv, th, vl, cg, rfl, rfl, R⟩ := I
  by_cases h : mh_tr op v1 = 0
  · obtain ⟨t, ht, rfl, ho⟩ := mh_tr0 h
    refine mx_commit_o ht ho (my_commit_o ht ho (mr_nar (R.1 t ht)) ?_)
    rw [mr_C R t ht]
    exact ⟨rfl, mr_i (mr_commit R ht)⟩
  · exact mx_commit_r h (my_commit_r h ⟨rfl, mr_i R⟩)
theorem i_vc_abort {k : Nat} {u : SX} {v : SY} (I : i_Rel k u v) (hk : k + 4 ≤ 2048) (v1 : Int32) : wpX_abort (fun r u' => wpY_abort (fun r' v' => r' = r ∧ i_Rel (k + 4) u' v') v v1) u v1 := by
  obtain ⟨c, cv, op, st, sv, ch, sl, sc, dt, dc, dv, th, vl, cg, rfl, rfl, R⟩ := I
  by_cases h : mh_tr op v1 = 0
  · obtain ⟨t, ht, rfl, ho⟩ := mh_tr0 h
    refine mx_abort_o ht ho (my_abort_o ht ho ?_)
    rw [mr_C R t ht]
    exact ⟨rfl, mr_i R⟩
  · exact mx_abort_r h (my_abort_r h ⟨rfl, mr_i R⟩)
theorem i_vc_crash {k : Nat} {u : SX} {v : SY} (I : i_Rel k u v) (hk : k + 4 ≤ 2048) : wpX_crash (fun r u' => wpY_crash (fun r' v' => r' = r ∧ i_Rel (k + 4) u' v') v) u := by
  obtain ⟨c, cv, op, st, sv, ch, sl, sc, dt, dc, dv, th, vl, cg, rfl, rfl, R⟩ := I
  exact mx_crash (my_crash ⟨rfl, mr_i R⟩)
theorem i_vc_committed {k : Nat} {u : SX} {v : SY} (I : i_Rel k u v) (hk : k + 4 ≤ 2048) (v1 : Int32) : wpX_committed (fun r => wpY_committed (fun r' => r' = r ∧ i_Rel (k + 4) u v) v v1) u v1 := by
  obtain ⟨c, cv, op, st, sv, ch, sl, sc, dt, dc, dv, th, vl, cg, rfl, rfl, R⟩ := I
  refine mx_committed (fun z => my_committed_r z ⟨rfl, mr_i R⟩) (fun r hr e => ?_)
  subst e
  refine my_committed_o hr (R.2.1 r hr).1 ⟨?_, mr_i R⟩
  cases hb : bt c r
  · rfl
  · exact (R.2.1 r hr).2 hb
theorem i_vc_rows {k : Nat} {u : SX} {v : SY} (I : i_Rel k u v) (hk : k + 4 ≤ 2048) : wpX_rows (fun r => wpY_rows (fun r' => r' = r ∧ i_Rel (k + 4) u v) v) u := by
  obtain ⟨c, cv, op, st, sv, ch, sl, sc, dt, dc, dv, th, vl, cg, rfl, rfl, R⟩ := I
  exact mx_rows (my_rows (fun r hr => (R.2.1 r hr).1) ⟨rfl, mr_i R⟩)
theorem i_vc_vacuum {k : Nat} {u : SX} {v : SY} (I : i_Rel k u v) (hk : k + 4 ≤ 2048) : wpX_vacuum (fun u' => wpY_vacuum (fun v' => i_Rel (k + 4) u' v') v) u := by
  obtain ⟨c, cv, op, st, sv, ch, sl, sc, dt, dc, dv, th, vl, cg, rfl, rfl, R⟩ := I
  exact mr_i (k := k + 4) R
theorem i_vc_flush {k : Nat} {u : SX} {v : SY} (I : i_Rel k u v) (hk : k + 4 ≤ 2048) : wpX_flush (fun u' => wpY_flush (fun v' => i_Rel (k + 4) u' v') v) u := by
  obtain ⟨c, cv, op, st, sv, ch, sl, sc, dt, dc, dv, th, vl, cg, rfl, rfl, R⟩ := I
  exact mr_i (k := k + 4) R
