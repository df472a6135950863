/-! the pure heap: what the objects and arrays hold, by their roles (a role: a number of the list layL); the world that holds it -/
abbrev PH : Type := (Nat → Nat → Int32) × (Nat → Nat → Int64)
abbrev PD : Type := Nat × Nat × Option Nat
abbrev LE : Type := Nat × Nat × List (Nat × Nat)
def layL : List LE := [(0, 8, [(2, 1), (2, 2), (2, 3), (2, 5), (2, 7), (2, 11), (3, 0), (4, 0), (2, 64), (0, 0), (0, 0)]),
  (4, 8, [(0, 14), (0, 16), (0, 18), (0, 20), (0, 22), (0, 24), (0, 26), (0, 28)]),
  (1, 8, []),
  (0, 6, [(2, 4), (0, 0), (0, 0), (0, 0), (0, 0)]),
  (1, 20, []),
  (0, 3, [(2, 6), (5, 0), (0, 0), (0, 0)]),
  (1, 3, []),
  (0, 1, [(2, 8), (2, 9), (2, 10), (0, 0), (1, 0), (1, 0), (0, 0), (0, 0)]),
  (2, 94, []),
  (2, 94, []),
  (1, 94, []),
  (0, 5, [(2, 12), (2, 13), (0, 0), (0, 0), (1, 0), (1, 0)]),
  (1, 92, []),
  (1, 92, []),
  (0, 4, [(0, 0), (0, 0), (2, 15)]),
  (2, 160, []),
  (0, 4, [(0, 0), (0, 0), (2, 17)]),
  (2, 160, []),
  (0, 4, [(0, 0), (0, 0), (2, 19)]),
  (2, 160, []),
  (0, 4, [(0, 0), (0, 0), (2, 21)]),
  (2, 160, []),
  (0, 4, [(0, 0), (0, 0), (2, 23)]),
  (2, 160, []),
  (0, 4, [(0, 0), (0, 0), (2, 25)]),
  (2, 160, []),
  (0, 4, [(0, 0), (0, 0), (2, 27)]),
  (2, 160, []),
  (0, 4, [(0, 0), (0, 0), (2, 29)]),
  (2, 160, []),
  (0, 2, [(2, 31), (2, 37), (2, 45), (2, 46), (0, 0), (0, 0), (0, 0), (1, 0), (1, 0)]),
  (0, 0, [(2, 32), (2, 33), (2, 34), (2, 35), (2, 36), (0, 0)]),
  (1, 8, []),
  (1, 8, []),
  (1, 8, []),
  (1, 8, []),
  (1, 10, []),
  (0, 7, [(2, 31), (2, 38), (2, 39), (0, 0), (2, 40), (2, 41), (2, 42), (2, 43), (2, 44)]),
  (1, 92, []),
  (1, 92, []),
  (2, 8, []),
  (2, 8, []),
  (2, 256, []),
  (2, 256, []),
  (3, 256, []),
  (1, 4, []),
  (1, 16, []),
  (0, 2, [(2, 48), (2, 54), (2, 62), (2, 63), (0, 0), (0, 0), (0, 0), (1, 0), (1, 0)]),
  (0, 0, [(2, 49), (2, 50), (2, 51), (2, 52), (2, 53), (0, 0)]),
  (1, 8, []),
  (1, 8, []),
  (1, 8, []),
  (1, 8, []),
  (1, 10, []),
  (0, 7, [(2, 48), (2, 55), (2, 56), (0, 0), (2, 57), (2, 58), (2, 59), (2, 60), (2, 61)]),
  (1, 92, []),
  (1, 92, []),
  (2, 8, []),
  (2, 8, []),
  (2, 256, []),
  (2, 256, []),
  (3, 256, []),
  (1, 4, []),
  (1, 16, []),
  (0, 2, [(2, 65), (2, 71), (2, 79), (2, 80), (0, 0), (0, 0), (0, 0), (1, 0), (1, 0)]),
  (0, 0, [(2, 66), (2, 67), (2, 68), (2, 69), (2, 70), (0, 0)]),
  (1, 8, []),
  (1, 8, []),
  (1, 8, []),
  (1, 8, []),
  (1, 10, []),
  (0, 7, [(2, 65), (2, 72), (2, 73), (0, 0), (2, 74), (2, 75), (2, 76), (2, 77), (2, 78)]),
  (1, 92, []),
  (1, 92, []),
  (2, 8, []),
  (2, 8, []),
  (2, 256, []),
  (2, 256, []),
  (3, 256, []),
  (1, 4, []),
  (1, 16, []),
  (0, 9, [(0, 0), (0, 0), (0, 0), (0, 0), (0, 0), (0, 0), (0, 0), (0, 0), (0, 0), (2, 82), (2, 83), (2, 84), (2, 85), (2, 86), (2, 87), (2, 88), (2, 89), (2, 90), (2, 91), (2, 92), (2, 93), (2, 94), (2, 95), (2, 96), (2, 97), (0, 0), (0, 0), (0, 0), (0, 0), (0, 0), (2, 98), (2, 99), (2, 100), (2, 101), (0, 0), (2, 102), (2, 103), (0, 0), (0, 0), (1, 0), (2, 104), (0, 0), (2, 105), (0, 0), (0, 0)]),
  (1, 8, []),
  (1, 8, []),
  (1, 8, []),
  (1, 8, []),
  (1, 8, []),
  (1, 16, []),
  (1, 16, []),
  (1, 8, []),
  (1, 8, []),
  (1, 8, []),
  (1, 8, []),
  (2, 1280, []),
  (2, 160, []),
  (1, 45, []),
  (1, 7, []),
  (1, 3, []),
  (1, 80, []),
  (1, 80, []),
  (1, 92, []),
  (1, 92, []),
  (1, 23552, []),
  (1, 9200, []),
  (1, 92, []),
  (1, 20, [])]
abbrev NR : Nat := 106
def lay (r : Nat) : LE := layL.getD r (9, 0, [])
def isHall (h : Nat) : Prop := h = 30 ∨ h = 47 ∨ h = 64
def isShelf (q : Nat) : Prop := q = 14 ∨ q = 16 ∨ q = 18 ∨ q = 20 ∨ q = 22 ∨ q = 24 ∨ q = 26 ∨ q = 28
theorem lay_h0 {h : Nat} (hh : isHall h) : lay (h) = (0, 2, [(2, h + 1), (2, h + 7), (2, h + 15), (2, h + 16), (0, 0), (0, 0), (0, 0), (1, 0), (1, 0)]) := by rcases hh with rfl | rfl | rfl <;> rfl
theorem lay_h1 {h : Nat} (hh : isHall h) : lay (h + 1) = (0, 0, [(2, h + 2), (2, h + 3), (2, h + 4), (2, h + 5), (2, h + 6), (0, 0)]) := by rcases hh with rfl | rfl | rfl <;> rfl
theorem lay_h2 {h : Nat} (hh : isHall h) : lay (h + 2) = (1, 8, []) := by rcases hh with rfl | rfl | rfl <;> rfl
theorem lay_h3 {h : Nat} (hh : isHall h) : lay (h + 3) = (1, 8, []) := by rcases hh with rfl | rfl | rfl <;> rfl
theorem lay_h4 {h : Nat} (hh : isHall h) : lay (h + 4) = (1, 8, []) := by rcases hh with rfl | rfl | rfl <;> rfl
theorem lay_h5 {h : Nat} (hh : isHall h) : lay (h + 5) = (1, 8, []) := by rcases hh with rfl | rfl | rfl <;> rfl
theorem lay_h6 {h : Nat} (hh : isHall h) : lay (h + 6) = (1, 10, []) := by rcases hh with rfl | rfl | rfl <;> rfl
theorem lay_h7 {h : Nat} (hh : isHall h) : lay (h + 7) = (0, 7, [(2, h + 1), (2, h + 8), (2, h + 9), (0, 0), (2, h + 10), (2, h + 11), (2, h + 12), (2, h + 13), (2, h + 14)]) := by rcases hh with rfl | rfl | rfl <;> rfl
theorem lay_h8 {h : Nat} (hh : isHall h) : lay (h + 8) = (1, 92, []) := by rcases hh with rfl | rfl | rfl <;> rfl
theorem lay_h9 {h : Nat} (hh : isHall h) : lay (h + 9) = (1, 92, []) := by rcases hh with rfl | rfl | rfl <;> rfl
theorem lay_h10 {h : Nat} (hh : isHall h) : lay (h + 10) = (2, 8, []) := by rcases hh with rfl | rfl | rfl <;> rfl
theorem lay_h11 {h : Nat} (hh : isHall h) : lay (h + 11) = (2, 8, []) := by rcases hh with rfl | rfl | rfl <;> rfl
theorem lay_h12 {h : Nat} (hh : isHall h) : lay (h + 12) = (2, 256, []) := by rcases hh with rfl | rfl | rfl <;> rfl
theorem lay_h13 {h : Nat} (hh : isHall h) : lay (h + 13) = (2, 256, []) := by rcases hh with rfl | rfl | rfl <;> rfl
theorem lay_h14 {h : Nat} (hh : isHall h) : lay (h + 14) = (3, 256, []) := by rcases hh with rfl | rfl | rfl <;> rfl
theorem lay_h15 {h : Nat} (hh : isHall h) : lay (h + 15) = (1, 4, []) := by rcases hh with rfl | rfl | rfl <;> rfl
theorem lay_h16 {h : Nat} (hh : isHall h) : lay (h + 16) = (1, 16, []) := by rcases hh with rfl | rfl | rfl <;> rfl
theorem lth {h : Nat} (hh : isHall h) (k : Nat) (hk : k ≤ 16) : h + k < NR := by rcases hh with rfl | rfl | rfl <;> (show _ < 106) <;> omega
theorem lth0 {h : Nat} (hh : isHall h) : h < NR := by rcases hh with rfl | rfl | rfl <;> decide
theorem lay_s0 {q : Nat} (hq : isShelf q) : lay (q) = (0, 4, [(0, 0), (0, 0), (2, q + 1)]) := by rcases hq with rfl | rfl | rfl | rfl | rfl | rfl | rfl | rfl <;> rfl
theorem lay_s1 {q : Nat} (hq : isShelf q) : lay (q + 1) = (2, 160, []) := by rcases hq with rfl | rfl | rfl | rfl | rfl | rfl | rfl | rfl <;> rfl
theorem lts0 {q : Nat} (hq : isShelf q) : q < NR := by rcases hq with rfl | rfl | rfl | rfl | rfl | rfl | rfl | rfl <;> decide
theorem lts1 {q : Nat} (hq : isShelf q) : q + 1 < NR := by rcases hq with rfl | rfl | rfl | rfl | rfl | rfl | rfl | rfl <;> decide
theorem lay_0 : lay 0 = (0, 8, [(2, 1), (2, 2), (2, 3), (2, 5), (2, 7), (2, 11), (3, 0), (4, 0), (2, 64), (0, 0), (0, 0)]) := rfl
theorem lay_1 : lay 1 = (4, 8, [(0, 14), (0, 16), (0, 18), (0, 20), (0, 22), (0, 24), (0, 26), (0, 28)]) := rfl
theorem lay_2 : lay 2 = (1, 8, []) := rfl
theorem lay_3 : lay 3 = (0, 6, [(2, 4), (0, 0), (0, 0), (0, 0), (0, 0)]) := rfl
theorem lay_4 : lay 4 = (1, 20, []) := rfl
theorem lay_5 : lay 5 = (0, 3, [(2, 6), (5, 0), (0, 0), (0, 0)]) := rfl
theorem lay_6 : lay 6 = (1, 3, []) := rfl
theorem lay_7 : lay 7 = (0, 1, [(2, 8), (2, 9), (2, 10), (0, 0), (1, 0), (1, 0), (0, 0), (0, 0)]) := rfl
theorem lay_8 : lay 8 = (2, 94, []) := rfl
theorem lay_9 : lay 9 = (2, 94, []) := rfl
theorem lay_10 : lay 10 = (1, 94, []) := rfl
theorem lay_11 : lay 11 = (0, 5, [(2, 12), (2, 13), (0, 0), (0, 0), (1, 0), (1, 0)]) := rfl
theorem lay_12 : lay 12 = (1, 92, []) := rfl
theorem lay_13 : lay 13 = (1, 92, []) := rfl
theorem lay_81 : lay 81 = (0, 9, [(0, 0), (0, 0), (0, 0), (0, 0), (0, 0), (0, 0), (0, 0), (0, 0), (0, 0), (2, 82), (2, 83), (2, 84), (2, 85), (2, 86), (2, 87), (2, 88), (2, 89), (2, 90), (2, 91), (2, 92), (2, 93), (2, 94), (2, 95), (2, 96), (2, 97), (0, 0), (0, 0), (0, 0), (0, 0), (0, 0), (2, 98), (2, 99), (2, 100), (2, 101), (0, 0), (2, 102), (2, 103), (0, 0), (0, 0), (1, 0), (2, 104), (0, 0), (2, 105), (0, 0), (0, 0)]) := rfl
theorem lay_82 : lay 82 = (1, 8, []) := rfl
theorem lay_83 : lay 83 = (1, 8, []) := rfl
theorem lay_84 : lay 84 = (1, 8, []) := rfl
theorem lay_85 : lay 85 = (1, 8, []) := rfl
theorem lay_86 : lay 86 = (1, 8, []) := rfl
theorem lay_87 : lay 87 = (1, 16, []) := rfl
theorem lay_88 : lay 88 = (1, 16, []) := rfl
theorem lay_89 : lay 89 = (1, 8, []) := rfl
theorem lay_90 : lay 90 = (1, 8, []) := rfl
theorem lay_91 : lay 91 = (1, 8, []) := rfl
theorem lay_92 : lay 92 = (1, 8, []) := rfl
theorem lay_93 : lay 93 = (2, 1280, []) := rfl
theorem lay_94 : lay 94 = (2, 160, []) := rfl
theorem lay_95 : lay 95 = (1, 45, []) := rfl
theorem lay_96 : lay 96 = (1, 7, []) := rfl
theorem lay_97 : lay 97 = (1, 3, []) := rfl
theorem lay_98 : lay 98 = (1, 80, []) := rfl
theorem lay_99 : lay 99 = (1, 80, []) := rfl
theorem lay_100 : lay 100 = (1, 92, []) := rfl
theorem lay_101 : lay 101 = (1, 92, []) := rfl
theorem lay_102 : lay 102 = (1, 23552, []) := rfl
theorem lay_103 : lay 103 = (1, 9200, []) := rfl
theorem lay_104 : lay 104 = (1, 92, []) := rfl
theorem lay_105 : lay 105 = (1, 20, []) := rfl
def gI (σ : PH) (r k : Nat) : Int32 := σ.1 r k
def gJ (σ : PH) (r k : Nat) : Int64 := σ.2 r k
def arrI (σ : PH) (r : Nat) (f : Nat → Int32) : PH := (fun q => if q = r then f else σ.1 q, σ.2)
def arrJ (σ : PH) (r : Nat) (f : Nat → Int64) : PH := (σ.1, fun q => if q = r then f else σ.2 q)
def putI (σ : PH) (r k : Nat) (v : Int32) : PH := arrI σ r (upd (gI σ r) k v)
def putJ (σ : PH) (r k : Nat) (v : Int64) : PH := arrJ σ r (vp_updL (gJ σ r) k v)
theorem gI_arrI_ne {σ : PH} {r q k : Nat} {f : Nat → Int32} (h : q ≠ r) : gI (arrI σ r f) q k = gI σ q k := by simp [gI, arrI, h]
theorem gI_arrI {σ : PH} {r k : Nat} {f : Nat → Int32} : gI (arrI σ r f) r k = f k := by simp [gI, arrI]
theorem gJ_arrI {σ : PH} {r q k : Nat} {f : Nat → Int32} : gJ (arrI σ r f) q k = gJ σ q k := rfl
theorem gJ_arrJ_ne {σ : PH} {r q k : Nat} {f : Nat → Int64} (h : q ≠ r) : gJ (arrJ σ r f) q k = gJ σ q k := by simp [gJ, arrJ, h]
theorem gJ_arrJ {σ : PH} {r k : Nat} {f : Nat → Int64} : gJ (arrJ σ r f) r k = f k := by simp [gJ, arrJ]
theorem gI_arrJ {σ : PH} {r q k : Nat} {f : Nat → Int64} : gI (arrJ σ r f) q k = gI σ q k := rfl
def fval (a : Nat → Nat) (σ : PH) (d : PD) (r k : Nat) (q : Nat × Nat) : Value := match q.1 with
  | 0 => .int (gI σ r k)
  | 1 => .long (gJ σ r k)
  | 2 => .ref (a q.2)
  | 3 => .ref (a d.1)
  | 4 => .ref (a d.2.1)
  | _ => va_rf (d.2.2.map a)
def fvals (a : Nat → Nat) (σ : PH) (d : PD) (r : Nat) (fs : List (Nat × Nat)) : List Value := fs.zipIdx.map fun q => fval a σ d r q.2 q.1
def cellE (a : Nat → Nat) (cA : Nat → ClassId) (σ : PH) (d : PD) (r : Nat) : va_E := match lay r with
  | (0, ci, fs) => .inr (ci, fvals a σ d r fs)
  | (1, n, _) => .inl (cA 0, n, .inl (gI σ r))
  | (2, n, _) => .inl (cA 1, n, .inr (.inl (gJ σ r)))
  | (3, n, _) => .inl (cA 2, n, .inl (fun i => gI σ r i &&& 1))
  | (_, n, ts) => .inl (cA 3, n, .inr (.inr (.inr (.inr (fun i => (ts[i]?).map fun q => a q.2)))))
def wl (a : Nat → Nat) (cA : Nat → ClassId) (σ : PH) (d : PD) : va_W := (List.range NR).map fun r => (a r, cellE a cA σ d r)
def tyL (cA : Nat → ClassId) : List (ClassId × FieldType) := [(cA 0, .int), (cA 1, .long), (cA 2, .boolean), (cA 3, .object "OnlyMovesHisLips$Shelf")]
def DA (a : Nat → Nat) (A : Nat → Prop) : Prop := (∀ i j, i < NR → j < NR → a i = a j → i = j) ∧ ∀ i, i < NR → A (a i)
section BW
variable {a : Nat → Nat} {cA : Nat → ClassId} {σ σ' : PH} {d d' : PD} {A : Nat → Prop}
theorem fvals_at {r k : Nat} {fs : List (Nat × Nat)} {t : Nat × Nat} (h : fs[k]? = some t) : (fvals a σ d r fs)[k]? = some (fval a σ d r k t) := by
  simp [fvals, List.getElem?_zipIdx, h]
theorem fvals_len {r : Nat} {fs : List (Nat × Nat)} : (fvals a σ d r fs).length = fs.length := by simp [fvals]
theorem wl_len : (wl a cA σ d).length = NR := by simp [wl]
theorem wl_at {r : Nat} (hr : r < NR) : (wl a cA σ d)[r]? = some (a r, cellE a cA σ d r) := by
  simp only [wl, List.getElem?_map, List.getElem?_range hr, Option.map_some]
theorem wl_in {k : Nat} {q : Nat × va_E} (h : (wl a cA σ d)[k]? = some q) : k < NR ∧ q = (a k, cellE a cA σ d k) := by
  have hk : k < NR := by
    have := (List.getElem?_eq_some_iff.mp h).1
    rwa [wl_len] at this
  rw [wl_at hk] at h
  exact ⟨hk, (Option.some.inj h).symm⟩
theorem wl_o {r ci : Nat} {fs : List (Nat × Nat)} (hr : r < NR) (h : lay r = (0, ci, fs)) : (wl a cA σ d)[r]? = some (a r, .inr (ci, fvals a σ d r fs)) := by
  rw [wl_at hr]; unfold cellE; rw [h]; rfl
theorem wl_i {r n : Nat} {fs : List (Nat × Nat)} (hr : r < NR) (h : lay r = (1, n, fs)) : (wl a cA σ d)[r]? = some (a r, .inl (cA 0, n, .inl (gI σ r))) := by
  rw [wl_at hr]; unfold cellE; rw [h]; rfl
theorem wl_j {r n : Nat} {fs : List (Nat × Nat)} (hr : r < NR) (h : lay r = (2, n, fs)) : (wl a cA σ d)[r]? = some (a r, .inl (cA 1, n, .inr (.inl (gJ σ r)))) := by
  rw [wl_at hr]; unfold cellE; rw [h]; rfl
theorem wl_z {r n : Nat} {fs : List (Nat × Nat)} (hr : r < NR) (h : lay r = (3, n, fs)) : (wl a cA σ d)[r]? = some (a r, .inl (cA 2, n, .inl (fun i => gI σ r i &&& 1))) := by
  rw [wl_at hr]; unfold cellE; rw [h]; rfl
theorem wl_q {r n : Nat} {fs : List (Nat × Nat)} (hr : r < NR) (h : lay r = (4, n, fs)) : (wl a cA σ d)[r]? = some (a r, .inl (cA 3, n, .inr (.inr (.inr (.inr (fun i => (fs[i]?).map fun q => a q.2)))))) := by
  rw [wl_at hr]; unfold cellE; rw [h]; rfl
theorem wl_D (h : DA a A) : va_D A (wl a cA σ d) := by
  refine ⟨fun i j p q hi hj e => ?_, fun k q hk => ?_⟩
  · obtain ⟨h1, rfl⟩ := wl_in hi
    obtain ⟨h2, rfl⟩ := wl_in hj
    exact h.1 i j h1 h2 e
  · obtain ⟨h1, rfl⟩ := wl_in hk
    exact h.2 k h1
theorem wl_set {r : Nat} {e : va_E} (hr : r < NR) (h1 : cellE a cA σ' d' r = e) (h2 : ∀ q, q ≠ r → cellE a cA σ' d' q = cellE a cA σ d q) : (wl a cA σ d).set r (a r, e) = wl a cA σ' d' := by
  apply List.ext_getElem?
  intro i
  by_cases hi : i = r
  · subst hi
    rw [List.getElem?_set_self (by rw [wl_len]; exact hr), wl_at hr, h1]
  · rw [List.getElem?_set_ne (Ne.symm hi)]
    by_cases hn : i < NR
    · rw [wl_at hn, wl_at hn, h2 i hi]
    · rw [List.getElem?_eq_none (by rw [wl_len]; omega), List.getElem?_eq_none (by rw [wl_len]; omega)]
theorem cellE_congr {r : Nat} (hI : ∀ k, gI σ' r k = gI σ r k) (hJ : ∀ k, gJ σ' r k = gJ σ r k) : cellE a cA σ' d r = cellE a cA σ d r := by
  have e1 : gI σ' r = gI σ r := funext hI
  have e2 : gJ σ' r = gJ σ r := funext hJ
  have e3 : ∀ fs, fvals a σ' d r fs = fvals a σ d r fs := fun fs => by
    unfold fvals fval
    simp only [hI, hJ]
  unfold cellE
  simp only [e1, e2, e3]
theorem cellE_arrI {r q : Nat} {f : Nat → Int32} (h : q ≠ r) : cellE a cA (arrI σ r f) d q = cellE a cA σ d q := cellE_congr (fun _ => gI_arrI_ne h) (fun _ => gJ_arrI)
theorem cellE_arrJ {r q : Nat} {f : Nat → Int64} (h : q ≠ r) : cellE a cA (arrJ σ r f) d q = cellE a cA σ d q := cellE_congr (fun _ => gI_arrJ) (fun _ => gJ_arrJ_ne h)
theorem wl_arrI {r n : Nat} {fs : List (Nat × Nat)} {f : Nat → Int32} (hr : r < NR) (h : lay r = (1, n, fs)) : (wl a cA σ d).set r (a r, .inl (cA 0, n, .inl f)) = wl a cA (arrI σ r f) d := by
  refine wl_set hr ?_ (fun q hq => cellE_arrI hq)
  unfold cellE
  rw [h]
  show (Sum.inl (cA 0, n, Sum.inl (gI (arrI σ r f) r)) : va_E) = _
  rw [show gI (arrI σ r f) r = f from funext fun k => gI_arrI]
theorem wl_arrJ {r n : Nat} {fs : List (Nat × Nat)} {f : Nat → Int64} (hr : r < NR) (h : lay r = (2, n, fs)) : (wl a cA σ d).set r (a r, .inl (cA 1, n, .inr (.inl f))) = wl a cA (arrJ σ r f) d := by
  refine wl_set hr ?_ (fun q hq => cellE_arrJ hq)
  unfold cellE
  rw [h]
  show (Sum.inl (cA 1, n, Sum.inr (Sum.inl (gJ (arrJ σ r f) r))) : va_E) = _
  rw [show gJ (arrJ σ r f) r = f from funext fun k => gJ_arrJ]
theorem wl_arrZ {r n : Nat} {fs : List (Nat × Nat)} {f g : Nat → Int32} (hr : r < NR) (h : lay r = (3, n, fs)) (hf : ∀ i, f i = g i &&& 1) : (wl a cA σ d).set r (a r, .inl (cA 2, n, .inl f)) = wl a cA (arrI σ r g) d := by
  refine wl_set hr ?_ (fun q hq => cellE_arrI hq)
  unfold cellE
  rw [h]
  show (Sum.inl (cA 2, n, Sum.inl (fun i => gI (arrI σ r g) r i &&& 1)) : va_E) = _
  rw [show (fun i => gI (arrI σ r g) r i &&& 1) = f from funext fun k => by rw [gI_arrI, hf]]
theorem fvals_set {r k : Nat} {fs : List (Nat × Nat)} {t : Nat × Nat} (hk : fs[k]? = some t) (v : Value) (h1 : fval a σ' d' r k t = v) (h2 : ∀ j u, j ≠ k → fs[j]? = some u → fval a σ' d' r j u = fval a σ d r j u) : (fvals a σ d r fs).set k v = fvals a σ' d' r fs := by
  apply List.ext_getElem?
  intro i
  have hl : k < fs.length := (List.getElem?_eq_some_iff.mp hk).1
  by_cases hi : i = k
  · subst hi
    rw [List.getElem?_set_self (by rw [fvals_len]; exact hl), fvals_at hk, h1]
  · rw [List.getElem?_set_ne (Ne.symm hi)]
    cases hu : fs[i]? with
    | some u => rw [fvals_at hu, fvals_at hu, h2 i u hi hu]
    | none =>
      have : fs.length ≤ i := List.getElem?_eq_none_iff.mp hu
      rw [List.getElem?_eq_none (by rw [fvals_len]; exact this), List.getElem?_eq_none (by rw [fvals_len]; exact this)]
theorem upd_ne {f : Nat → Int32} {k j : Nat} {x : Int32} (h : j ≠ k) : upd f k x j = f j := by simp [upd, h]
theorem updL_ne {f : Nat → Int64} {k j : Nat} {x : Int64} (h : j ≠ k) : vp_updL f k x j = f j := by simp [vp_updL, h]
theorem wl_putI {r k ci z : Nat} {fs : List (Nat × Nat)} {v : Int32} (hr : r < NR) (h : lay r = (0, ci, fs)) (hk : fs[k]? = some (0, z)) : (wl a cA σ d).set r (a r, .inr (ci, (fvals a σ d r fs).set k (.int v))) = wl a cA (putI σ r k v) d := by
  refine wl_set hr ?_ (fun q hq => cellE_arrI hq)
  unfold cellE
  rw [h]
  show (Sum.inr (ci, fvals a (putI σ r k v) d r fs) : va_E) = _
  rw [fvals_set (σ' := putI σ r k v) (d' := d) hk (.int v) (by show Value.int (gI (putI σ r k v) r k) = _; simp [putI, gI_arrI, upd]) (fun j u hj _ => by
    unfold fval
    simp only [putI, gI_arrI, gJ_arrI, upd_ne hj])]
theorem wl_putJ {r k ci z : Nat} {fs : List (Nat × Nat)} {v : Int64} (hr : r < NR) (h : lay r = (0, ci, fs)) (hk : fs[k]? = some (1, z)) : (wl a cA σ d).set r (a r, .inr (ci, (fvals a σ d r fs).set k (.long v))) = wl a cA (putJ σ r k v) d := by
  refine wl_set hr ?_ (fun q hq => cellE_arrJ hq)
  unfold cellE
  rw [h]
  show (Sum.inr (ci, fvals a (putJ σ r k v) d r fs) : va_E) = _
  rw [fvals_set (σ' := putJ σ r k v) (d' := d) hk (.long v) (by show Value.long (gJ (putJ σ r k v) r k) = _; simp [putJ, gJ_arrJ, vp_updL]) (fun j u hj _ => by
    unfold fval
    simp only [putJ, gJ_arrJ, gI_arrJ, updL_ne hj])]
end BW

