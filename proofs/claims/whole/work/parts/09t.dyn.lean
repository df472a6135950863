/-! the three places that hold changing references -/
section DY
variable {a : Nat → Nat} {cA : Nat → ClassId} {σ : PH} {d d' : PD} {A : Nat → Prop}
theorem fval_d {r k : Nat} {t : Nat × Nat} (h3 : t.1 = 3 → d'.1 = d.1) (h4 : t.1 = 4 → d'.2.1 = d.2.1) (h5 : 5 ≤ t.1 → d'.2.2 = d.2.2) : fval a σ d' r k t = fval a σ d r k t := by
  obtain ⟨kd, tg⟩ := t
  match kd, h3, h4, h5 with
  | 0, _, _, _ => rfl
  | 1, _, _, _ => rfl
  | 2, _, _, _ => rfl
  | 3, h3, _, _ => show Value.ref (a d'.1) = Value.ref (a d.1); rw [h3 rfl]
  | 4, _, h4, _ => show Value.ref (a d'.2.1) = Value.ref (a d.2.1); rw [h4 rfl]
  | n + 5, _, _, h5 => show va_rf (d'.2.2.map a) = va_rf (d.2.2.map a); rw [h5 (Nat.le_add_left 5 n)]
theorem fvals_d {r : Nat} {fs : List (Nat × Nat)} (h : ∀ t ∈ fs, (t.1 = 3 → d'.1 = d.1) ∧ (t.1 = 4 → d'.2.1 = d.2.1) ∧ (5 ≤ t.1 → d'.2.2 = d.2.2)) : fvals a σ d' r fs = fvals a σ d r fs := by
  apply List.ext_getElem?
  intro i
  cases hu : fs[i]? with
  | some u =>
    obtain ⟨h3, h4, h5⟩ := h u (List.mem_of_getElem? hu)
    rw [fvals_at hu, fvals_at hu, fval_d h3 h4 h5]
  | none =>
    have : fs.length ≤ i := List.getElem?_eq_none_iff.mp hu
    rw [List.getElem?_eq_none (by rw [fvals_len]; exact this), List.getElem?_eq_none (by rw [fvals_len]; exact this)]
theorem cellE_d {r : Nat} (h : ∀ t ∈ (lay r).2.2, (t.1 = 3 → d'.1 = d.1) ∧ (t.1 = 4 → d'.2.1 = d.2.1) ∧ (5 ≤ t.1 → d'.2.2 = d.2.2)) : cellE a cA σ d' r = cellE a cA σ d r := by
  unfold cellE
  generalize lay r = e at h ⊢
  obtain ⟨tg, n, fs⟩ := e
  have hv := fvals_d (a := a) (σ := σ) (r := r) h
  match tg with
  | 0 =>
    show (Sum.inr (n, fvals a σ d' r fs) : va_E) = Sum.inr (n, fvals a σ d r fs)
    rw [hv]
  | 1 => rfl
  | 2 => rfl
  | 3 => rfl
  | k + 4 => rfl
theorem dynK : ∀ r, r ≠ 0 → r ≠ 5 → ∀ t ∈ (lay r).2.2, t.1 < 3 := by
  intro r h0 h5
  by_cases hr : r < NR
  · have H : ∀ r, r < NR → r ≠ 0 → r ≠ 5 → (lay r).2.2.all (fun t => decide (t.1 < 3)) = true := by decide +kernel
    intro t ht
    exact of_decide_eq_true (List.all_eq_true.mp (H r hr h0 h5) t ht)
  · have : lay r = (9, 0, []) := by
      unfold lay
      rw [List.getD_eq_getElem?_getD, List.getElem?_eq_none (show layL.length ≤ r from Nat.le_of_not_lt hr)]
      rfl
    rw [this]
    intro t ht
    exact absurd ht List.not_mem_nil
theorem wl_putP0 {k ci q : Nat} {fs : List (Nat × Nat)} (hl : lay 0 = (0, ci, fs)) {t : Nat × Nat} (hk : fs[k]? = some t) (hv : fval a σ d' 0 k t = .ref (a q)) (ho : ∀ j u, j ≠ k → fs[j]? = some u → (u.1 = 3 → d'.1 = d.1) ∧ (u.1 = 4 → d'.2.1 = d.2.1)) (h5 : d'.2.2 = d.2.2) : (wl a cA σ d).set 0 (a 0, .inr (ci, (fvals a σ d 0 fs).set k (.ref (a q)))) = wl a cA σ d' := by
  refine wl_set (by decide) ?_ (fun r hr => ?_)
  · unfold cellE
    rw [hl]
    show (Sum.inr (ci, fvals a σ d' 0 fs) : va_E) = _
    rw [fvals_set (σ' := σ) (d' := d') hk (.ref (a q)) hv (fun j u hj hu => fval_d (ho j u hj hu).1 (ho j u hj hu).2 (fun _ => h5))]
  · by_cases hr5 : r = 5
    · subst hr5
      exact cellE_d (fun t ht => ⟨fun e => absurd ht (by rw [lay_5]; obtain ⟨x, y⟩ := t; simp at e; subst e; simp), fun e => absurd ht (by rw [lay_5]; obtain ⟨x, y⟩ := t; simp at e; subst e; simp), fun _ => h5⟩)
    · exact cellE_d (fun t ht => ⟨fun e => absurd (dynK r hr hr5 t ht) (by omega), fun e => absurd (dynK r hr hr5 t ht) (by omega), fun e => absurd (dynK r hr hr5 t ht) (by omega)⟩)
theorem wl_putT {q : Nat} : (wl a cA σ d).set 5 (a 5, .inr (3, (fvals a σ d 5 [(2, 6), (5, 0), (0, 0), (0, 0)]).set 1 (.ref (a q)))) = wl a cA σ (d.1, d.2.1, some q) := by
  refine wl_set (by decide) ?_ (fun r hr => ?_)
  · unfold cellE
    rw [lay_5]
    rfl
  · by_cases hr0 : r = 0
    · subst hr0
      exact cellE_d (fun t ht => ⟨fun _ => rfl, fun _ => rfl, fun e => absurd ht (by rw [lay_0]; obtain ⟨x, y⟩ := t; intro hm; simp at hm; omega)⟩)
    · exact cellE_d (fun t ht => ⟨fun _ => rfl, fun _ => rfl, fun e => absurd (dynK r hr0 hr t ht) (by omega)⟩)
end DY
section DZ
variable {p : Program} {l : Launch} {e : Env} {R : Room} {s : State} {m : MethodId} {args : Array Value} {below : List Frame} {meth : Method} {c : Code} {H : Heap} {locs : List Loc} {cells slots : Nat} {Q : State → Prop}
variable {cc : ByteArray} {pc : Nat} {ls : Array Slot} {rest : List Value} {D : va_G} {a : Nat → Nat} {cA : Nat → ClassId} {A : Nat → Prop} {sa : Nat → Nat} {σ : PH} {d : PD}
theorem zp_hall (hx : p.tables.exec = Jvm.exec) (hb : c.code = cc) (C : ZC s m args RX8 D a cA A sa) (hP : va_P D vwCl (wl a cA σ d) H) (hS : va_S A s.heap H locs) {q : Nat} (_ : q < NR) (hdg : decode cc pc = .ok (.putfield 50, 3))
    (kk : ∀ (H1 : Heap) (locs1 : List Loc), va_P D vwCl (wl a cA σ (q, d.2.1, d.2.2)) H1 → va_S A s.heap H1 locs1 → W p l e R s m args below meth c H1 locs1 cells slots Q (F0 m (pc + 3) ls rest)) : W p l e R s m args below meth c H locs cells slots Q (F0 m pc ls (.ref (a q) :: .ref (a 0) :: rest)) :=
  va_put (D := D) (cl := vwCl) (tys := tyL cA) (ci := 8) (v := .ref (a q)) (ty := .object "OnlyMovesHisLips$Hall") hx hb C.2.1 ku_X8 tyX8 tyX8_ok nmX8 C.1 C.2.2.1 hP (wl_D C.2.2.2.2) hS 0 (wl_o (by decide) lay_0) rfl 6 (by decide) (C.2.1 _ kf_X8_50) (fun _ h9 => h9) rfl (by decide +kernel) rfl rfl (by rw [fvals_len]; decide) hdg
    (fun H1 locs1 hP1 _ hS1 => kk H1 locs1 (by
      rw [wl_putP0 (d := d) (d' := (q, d.2.1, d.2.2)) (q := q) lay_0 (k := 6) (t := (3, 0)) rfl rfl (fun j u hj hu => ⟨fun e => absurd hu (by
        match j, hj with
        | 0, _ => intro h; cases h; cases e
        | 1, _ => intro h; cases h; cases e
        | 2, _ => intro h; cases h; cases e
        | 3, _ => intro h; cases h; cases e
        | 4, _ => intro h; cases h; cases e
        | 5, _ => intro h; cases h; cases e
        | 6, hj => exact absurd rfl hj
        | 7, _ => intro h; cases h; cases e
        | 8, _ => intro h; cases h; cases e
        | 9, _ => intro h; cases h; cases e
        | 10, _ => intro h; cases h; cases e
        | n + 11, _ => intro h; cases h), fun _ => rfl⟩) rfl] at hP1
      exact hP1) hS1)
theorem zp_spare (hx : p.tables.exec = Jvm.exec) (hb : c.code = cc) (C : ZC s m args RX8 D a cA A sa) (hP : va_P D vwCl (wl a cA σ d) H) (hS : va_S A s.heap H locs) {q : Nat} (_ : q < NR) (hdg : decode cc pc = .ok (.putfield 54, 3))
    (kk : ∀ (H1 : Heap) (locs1 : List Loc), va_P D vwCl (wl a cA σ (d.1, q, d.2.2)) H1 → va_S A s.heap H1 locs1 → W p l e R s m args below meth c H1 locs1 cells slots Q (F0 m (pc + 3) ls rest)) : W p l e R s m args below meth c H locs cells slots Q (F0 m pc ls (.ref (a q) :: .ref (a 0) :: rest)) :=
  va_put (D := D) (cl := vwCl) (tys := tyL cA) (ci := 8) (v := .ref (a q)) (ty := .object "OnlyMovesHisLips$Hall") hx hb C.2.1 ku_X8 tyX8 tyX8_ok nmX8 C.1 C.2.2.1 hP (wl_D C.2.2.2.2) hS 0 (wl_o (by decide) lay_0) rfl 7 (by decide) (C.2.1 _ kf_X8_54) (fun _ h9 => h9) rfl (by decide +kernel) rfl rfl (by rw [fvals_len]; decide) hdg
    (fun H1 locs1 hP1 _ hS1 => kk H1 locs1 (by
      rw [wl_putP0 (d := d) (d' := (d.1, q, d.2.2)) (q := q) lay_0 (k := 7) (t := (4, 0)) rfl rfl (fun j u hj hu => ⟨fun _ => rfl, fun e => absurd hu (by
        match j, hj with
        | 0, _ => intro h; cases h; cases e
        | 1, _ => intro h; cases h; cases e
        | 2, _ => intro h; cases h; cases e
        | 3, _ => intro h; cases h; cases e
        | 4, _ => intro h; cases h; cases e
        | 5, _ => intro h; cases h; cases e
        | 6, _ => intro h; cases h; cases e
        | 7, hj => exact absurd rfl hj
        | 8, _ => intro h; cases h; cases e
        | 9, _ => intro h; cases h; cases e
        | 10, _ => intro h; cases h; cases e
        | n + 11, _ => intro h; cases h)⟩) rfl] at hP1
      exact hP1) hS1)
theorem zp_text (hx : p.tables.exec = Jvm.exec) (hb : c.code = cc) (C : ZC s m args RX3 D a cA A sa) (hP : va_P D vwCl (wl a cA σ d) H) (hS : va_S A s.heap H locs) {q : Nat} (_ : q < NR) (hdg : decode cc pc = .ok (.putfield 15, 3))
    (kk : ∀ (H1 : Heap) (locs1 : List Loc), va_P D vwCl (wl a cA σ (d.1, d.2.1, some q)) H1 → va_S A s.heap H1 locs1 → W p l e R s m args below meth c H1 locs1 cells slots Q (F0 m (pc + 3) ls rest)) : W p l e R s m args below meth c H locs cells slots Q (F0 m pc ls (.ref (a q) :: .ref (a 5) :: rest)) :=
  va_put (D := D) (cl := vwCl) (tys := tyL cA) (ci := 3) (v := .ref (a q)) (ty := .object "OnlyMovesHisLips$Shelf") hx hb C.2.1 ku_X3 tyX3 tyX3_ok nmX3 C.1 C.2.2.1 hP (wl_D C.2.2.2.2) hS 5 (wl_o (by decide) lay_5) rfl 1 (by decide) (C.2.1 _ kf_X3_15) (fun _ h9 => h9) rfl (by decide +kernel) rfl rfl (by rw [fvals_len]; decide) hdg
    (fun H1 locs1 hP1 _ hS1 => kk H1 locs1 (by rw [wl_putT] at hP1; exact hP1) hS1)
end DZ
