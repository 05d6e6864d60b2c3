/-! ===== the relation, and how the writes keep it ===== -/
/-- slot k of the reference (8 cells of there, 8 of values) against a set s and values f of the class -/
def mh_S (s : Int32) (f th vl : Nat → Int32) (k : Nat) : Prop := ∀ r, r < 8 → (th (8 * k + r) = if bt s r = true then 1 else 0) ∧ (bt s r = true → vl (8 * k + r) = f r)
def mh_R (c : Int32) (cv st sv ch sc dt dc dv th vl cg : Nat → Int32) : Prop :=
  (∀ t, t < 4 → mh_S (st t) (fun r => sv (8 * t + r)) th vl t) ∧ mh_S c cv th vl 4 ∧ (∀ j, j < 12 → mh_S (dt j) (fun r => dv (8 * j + r)) th vl (5 + j)) ∧ (∀ t, t < 4 → cg t = ch t) ∧ (∀ j, j < 12 → cg (5 + j) = dc j) ∧ (∀ t, t < 4 → ∃ n : Nat, n ≤ 3 ∧ sc t = nI n)
/-- slot b is overwritten by slot a: slot b stands as a did -/
theorem mr_cp {s : Int32} {f th vl : Nat → Int32} {a b : Nat} (h : mh_S s f th vl a) : mh_S s f (mh_fl th (8 * b) (fun r => th (8 * a + r)) mh_T 8) (mh_fl vl (8 * b) (fun r => vl (8 * a + r)) mh_T 8) b := by
  intro r hr
  rw [mh_flT hr, mh_flT hr]
  exact h r hr
/-- .. and every other slot stays -/
theorem mr_ck {s : Int32} {f th vl g1 g2 : Nat → Int32} {m1 m2 : Nat → Bool} {k b : Nat} (hb : k ≠ b) (h : mh_S s f th vl k) : mh_S s f (mh_fl th (8 * b) g1 m1 8) (mh_fl vl (8 * b) g2 m2 8) k := by
  intro r hr
  rw [mh_flo (by omega), mh_flo (by omega)]
  exact h r hr
theorem mr_cf {s s' : Int32} {f f' th vl : Nat → Int32} {k : Nat} (hs : s' = s) (hf : ∀ r, r < 8 → f' r = f r) (h : mh_S s f th vl k) : mh_S s' f' th vl k := by
  subst hs
  intro r hr
  rw [hf r hr]
  exact h r hr
/-- one cell of slot t is written: the other slots stay -/
theorem mr_uk {s x y : Int32} {f th vl : Nat → Int32} {k t r : Nat} (hr : r < 8) (hb : k ≠ t) (h : mh_S s f th vl k) : mh_S s f (upd th (8 * t + r) x) (upd vl (8 * t + r) y) k := by
  intro q hq
  rw [pk_un (by omega), pk_un (by omega)]
  exact h q hq
/-- .. slot t itself -/
theorem mr_us {s s' x y : Int32} {f f' th vl : Nat → Int32} {t r : Nat} (h : mh_S s f th vl t) (hx : x = if bt s' r = true then 1 else 0) (hy : bt s' r = true → y = f' r) (hs : ∀ q, q < 8 → q ≠ r → bt s' q = bt s q) (hf : ∀ q, q < 8 → q ≠ r → f' q = f q) : mh_S s' f' (upd th (8 * t + r) x) (upd vl (8 * t + r) y) t := by
  intro q hq
  by_cases e : q = r
  · subst e
    rw [pk_us, pk_us]
    exact ⟨hx, hy⟩
  · rw [pk_un (by omega), pk_un (by omega), hs q hq e, hf q hq e]
    exact h q hq
theorem mr_nar {s : Int32} {f th vl : Nat → Int32} {k : Nat} (h : mh_S s f th vl k) : ∀ r, r < 8 → vp_nar .boolean (th (8 * k + r)) = th (8 * k + r) := fun r hr => my_bn (h r hr).1
section
variable {c : Int32} {cv st sv ch sc dt dc dv th vl cg : Nat → Int32}
theorem mr_B (R : mh_R c cv st sv ch sc dt dc dv th vl cg) : ∀ t, t < 4 → ∀ r, r < 8 → th (8 * t + r) = if bt (st t) r = true then 1 else 0 := fun t ht r hr => (R.1 t ht r hr).1
theorem mr_C (R : mh_R c cv st sv ch sc dt dc dv th vl cg) : ∀ t, t < 4 → cg t = ch t := R.2.2.2.1
theorem mr_open (R : mh_R c cv st sv ch sc dt dc dv th vl cg) {t : Nat} (ht : t < 4) : mh_R c cv (upd st t c) (mh_fl sv (8 * t) cv mh_T 8) (upd ch t 0) (upd sc t 0) dt dc dv (mh_fl th (8 * t) (fun r => th (8 * 4 + r)) mh_T 8) (mh_fl vl (8 * t) (fun r => vl (8 * 4 + r)) mh_T 8) (upd (upd cg t (cg 4)) t 0) := by
  obtain ⟨hA, hB, hC, hD, hE, hF⟩ := R
  refine ⟨fun k hk => ?_, mr_ck (by omega) hB, fun j hj => mr_ck (by omega) (hC j hj), fun k hk => ?_, fun j hj => ?_, fun k hk => ?_⟩
  · by_cases e : k = t
    · subst e
      rw [pk_us]
      exact mr_cf rfl (fun r hr => mh_flT hr) (mr_cp hB)
    · rw [pk_un e]
      exact mr_cf rfl (fun r hr => mh_flo (by omega)) (mr_ck e (hA k hk))
  · by_cases e : k = t
    · subst e; rw [pk_us, pk_us]
    · rw [pk_un e, pk_un e, pk_un e]; exact hD k hk
  · rw [pk_un (by omega), pk_un (by omega)]; exact hE j hj
  · by_cases e : k = t
    · subst e; rw [pk_us]; exact ⟨0, by omega, rfl⟩
    · rw [pk_un e]; exact hF k hk
/-- a write of row r of slot t, the changes marked on both sides -/
theorem mr_cell (R : mh_R c cv st sv ch sc dt dc dv th vl cg) {t r : Nat} {s' x y z : Int32} {sv' : Nat → Int32} (ht : t < 4) (hr : r < 8) (hx : x = if bt s' r = true then 1 else 0) (hy : bt s' r = true → y = sv' (8 * t + r)) (hs : ∀ q, q < 8 → q ≠ r → bt s' q = bt (st t) q) (hf : ∀ q, q ≠ 8 * t + r → sv' q = sv q) : mh_R c cv (upd st t s') sv' (upd ch t (ch t ||| z)) sc dt dc dv (upd th (8 * t + r) x) (upd vl (8 * t + r) y) (upd cg t (cg t ||| z)) := by
  obtain ⟨hA, hB, hC, hD, hE, hF⟩ := R
  refine ⟨fun k hk => ?_, mr_uk hr (by omega) hB, fun j hj => mr_uk hr (by omega) (hC j hj), fun k hk => ?_, fun j hj => ?_, hF⟩
  · by_cases e : k = t
    · subst e
      rw [pk_us]
      exact mr_us (hA k hk) hx hy hs (fun q hq hn => hf _ (by omega))
    · rw [pk_un e]
      exact mr_cf rfl (fun q hq => hf _ (by omega)) (mr_uk hr e (hA k hk))
  · by_cases e : k = t
    · subst e; rw [pk_us, pk_us, hD k hk]
    · rw [pk_un e, pk_un e]; exact hD k hk
  · rw [pk_un (by omega)]; exact hE j hj
theorem mr_save (R : mh_R c cv st sv ch sc dt dc dv th vl cg) {t k : Nat} (ht : t < 4) (hk : k < 3) : mh_R c cv st sv ch (upd sc t (nI k + 1)) (upd dt (3 * t + k) (st t)) (upd dc (3 * t + k) (ch t)) (mh_fl dv (8 * (3 * t + k)) (fun r => sv (8 * t + r)) mh_T 8) (mh_fl th (8 * (5 + (3 * t + k))) (fun r => th (8 * t + r)) mh_T 8) (mh_fl vl (8 * (5 + (3 * t + k))) (fun r => vl (8 * t + r)) mh_T 8) (upd cg (5 + (3 * t + k)) (cg t)) := by
  obtain ⟨hA, hB, hC, hD, hE, hF⟩ := R
  refine ⟨fun i hi => mr_ck (by omega) (hA i hi), mr_ck (by omega) hB, fun j hj => ?_, fun i hi => ?_, fun j hj => ?_, fun i hi => ?_⟩
  · by_cases e : j = 3 * t + k
    · subst e
      rw [pk_us]
      exact mr_cf rfl (fun r hr => mh_flT hr) (mr_cp (hA t ht))
    · rw [pk_un e]
      exact mr_cf rfl (fun r hr => mh_flo (by omega)) (mr_ck (by omega) (hC j hj))
  · rw [pk_un (by omega)]; exact hD i hi
  · by_cases e : j = 3 * t + k
    · subst e; rw [pk_us, pk_us]; exact hD t ht
    · rw [pk_un e, pk_un (by omega)]; exact hE j hj
  · by_cases e : i = t
    · subst e; rw [pk_us]; exact ⟨k + 1, by omega, nI_1 k⟩
    · rw [pk_un e]; exact hF i hi
theorem mr_back (R : mh_R c cv st sv ch sc dt dc dv th vl cg) {t k : Nat} (ht : t < 4) (hk : k < 3) : mh_R c cv (upd st t (dt (3 * t + k))) (mh_fl sv (8 * t) (fun r => dv (8 * (3 * t + k) + r)) mh_T 8) (upd ch t (dc (3 * t + k))) (upd sc t (nI k)) dt dc dv (mh_fl th (8 * t) (fun r => th (8 * (5 + (3 * t + k)) + r)) mh_T 8) (mh_fl vl (8 * t) (fun r => vl (8 * (5 + (3 * t + k)) + r)) mh_T 8) (upd cg t (cg (5 + (3 * t + k)))) := by
  obtain ⟨hA, hB, hC, hD, hE, hF⟩ := R
  refine ⟨fun i hi => ?_, mr_ck (by omega) hB, fun j hj => mr_ck (by omega) (hC j hj), fun i hi => ?_, fun j hj => ?_, fun i hi => ?_⟩
  · by_cases e : i = t
    · subst e
      rw [pk_us]
      exact mr_cf rfl (fun r hr => mh_flT hr) (mr_cp (hC (3 * i + k) (by omega)))
    · rw [pk_un e]
      exact mr_cf rfl (fun r hr => mh_flo (by omega)) (mr_ck e (hA i hi))
  · by_cases e : i = t
    · subst e; rw [pk_us, pk_us]; exact hE _ (by omega)
    · rw [pk_un e, pk_un e]; exact hD i hi
  · rw [pk_un (by omega)]; exact hE j hj
  · by_cases e : i = t
    · subst e; rw [pk_us]; exact ⟨k, by omega, rfl⟩
    · rw [pk_un e]; exact hF i hi
theorem mr_commit (R : mh_R c cv st sv ch sc dt dc dv th vl cg) {t : Nat} (ht : t < 4) : mh_R ((c &&& (ch t ^^^ (-1))) ||| (st t &&& ch t)) (mh_fl cv 0 (fun r => sv (8 * t + r)) (bt (ch t)) 8) st sv ch sc dt dc dv (mh_fl th 32 (fun r => th (8 * t + r)) (bt (ch t)) 8) (mh_fl vl 32 (fun r => vl (8 * t + r)) (bt (ch t)) 8) cg := by
  obtain ⟨hA, hB, hC, hD, hE, hF⟩ := R
  refine ⟨fun i hi => mr_ck (b := 4) (by omega) (hA i hi), fun r hr => ?_, fun j hj => mr_ck (b := 4) (by omega) (hC j hj), hD, hE, hF⟩
  have e := mh_fli (f := cv) (b := 0) (g := fun r => sv (8 * t + r)) (m := bt (ch t)) (n := 8) hr
  rw [Nat.zero_add] at e
  rw [mh_mix c (st t) (ch t) hr, e]
  show (mh_fl th 32 (fun r => th (8 * t + r)) (bt (ch t)) 8 (32 + r) = _) ∧ (_ → mh_fl vl 32 (fun r => vl (8 * t + r)) (bt (ch t)) 8 (32 + r) = _)
  rw [mh_fli hr, mh_fli hr]
  cases hb : bt (ch t) r
  · exact hB r hr
  · exact hA t ht r hr
end
