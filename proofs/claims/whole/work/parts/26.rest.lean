/-! THE REST OF THE INVARIANT: programs, code, graph, of class and model -/
/-- a function: name (its bytes), parameters, variables, body, replaced, code, slots, temps, bound -/
abbrev Fn : Type := List Nat × Nat × Nat × Fo × Nat × List (Int32 × Int32) × Nat × Nat × Int32
abbrev fnN (F : Fn) : List Nat := F.1
abbrev fnP (F : Fn) : Nat := F.2.1
abbrev fnV (F : Fn) : Nat := F.2.2.1
abbrev fnB (F : Fn) : Fo := F.2.2.2.1
abbrev fnR (F : Fn) : Nat := F.2.2.2.2.1
abbrev fnC (F : Fn) : List (Int32 × Int32) := F.2.2.2.2.2.1
abbrev fnS (F : Fn) : Nat := F.2.2.2.2.2.2.1
abbrev fnT (F : Fn) : Nat := F.2.2.2.2.2.2.2.1
abbrev fnU (F : Fn) : Int32 := F.2.2.2.2.2.2.2.2
/-- names, packed as the class and as the model packs them -/
def pk8 (l : List Nat) : Int64 := l.foldl (fun x c => x <<< 8 ||| Int64.ofNat c) 0
def lt6 (c : Nat) : Nat := if 97 ≤ c ∧ c ≤ 122 then c - 96 else if 48 ≤ c ∧ c ≤ 57 then c - 21 else 0
def pk6 (l : List Nat) : Int64 := l.foldl (fun x c => x <<< 6 ||| Int64.ofNat (lt6 c)) 0
def nm_ok (l : List Nat) : Prop := l ≠ [] ∧ l.length ≤ 8 ∧ (∀ c ∈ l, 0 < lt6 c) ∧ ∀ c, l.head? = some c → 97 ≤ c
/-- two rows hold a list of pairs from s on -/
def rows (X Y : Nat → Int32) (s : Nat) (l : List (Int32 × Int32)) : Prop := ∀ i q, l[i]? = some q → X (s + i) = q.1 ∧ Y (s + i) = q.2
/-- a function in the class's program p -/
def RPf (I : Nat → Nat → Int32) (J : Nat → Nat → Int64) (p f : Nat) (F : Fn) : Prop :=
  J (p + 1) f = pk8 (fnN F) ∧ I (p + 2) f = nI (fnP F) ∧ I (p + 3) f = nI (fnV F) ∧ I (p + 6) f = nI (fnR F) ∧ I (p + 9) f = nI (fnS F) ∧ I (p + 10) f = nI (fnT F) ∧ I (p + 11) f = fnU F ∧
  (∃ s, I (p + 4) f = nI s ∧ s + fo_n (fnB F) ≤ c_len (p + 12) ∧ I (p + 5) f = nI (fo_n (fnB F)) ∧ rows (I (p + 12)) (I (p + 13)) s (fo_p (fnB F))) ∧
  (∃ s, I (p + 7) f = nI s ∧ s + (fnC F).length ≤ c_len (p + 14) ∧ I (p + 8) f = nI (fnC F).length ∧ rows (I (p + 14)) (I (p + 15)) s (fnC F))
def RP (I : Nat → Nat → Int32) (J : Nat → Nat → Int64) (p : Nat) (A : List Fn) : Prop := I p 15 = nI A.length ∧ ∀ f F, A[f]? = some F → RPf I J p f F
/-- an expression in row x of the model's -/
def RMb (I : Nat → Nat → Int32) (x : Nat) (b : Fo) : Prop := I 148 x = nI (fo_n b) ∧ ∃ N, I 156 x = nI N ∧ N < fo_n b ∧ fo_m (fun i => I 151 (1300 * x + i)) (fun i => I 152 (1300 * x + i)) (fun i => I 153 (1300 * x + i)) (fun i => I 154 (1300 * x + i)) (fun i => I 155 (1300 * x + i)) N id b 0
/-- a function in row x of the model's (0 .. 23 source, 24 .. 47 output) -/
def RMf (I : Nat → Nat → Int32) (x : Nat) (F : Fn) : Prop :=
  RMb I x (fnB F) ∧ I 149 x = nI (fnV F) ∧ I 184 x = nI (fnC F).length ∧ rows (I 182) (I 183) (1600 * x) (fnC F) ∧ I 185 x = nI (fnS F) ∧ I 186 x = nI (fnT F) ∧ I 188 x = fnU F
def RM (I : Nat → Nat → Int32) (J : Nat → Nat → Int64) (A B : List Fn) : Prop :=
  I 144 11 = nI A.length ∧ (∀ f F, A[f]? = some F → J 146 f = pk6 (fnN F) ∧ I 147 f = nI (fnP F) ∧ RMf I f F) ∧ ∀ f F, B[f]? = some F → I 150 f = nI (fnR F) ∧ RMf I (24 + f) F
def hb (x : Int32) (g : Nat) : Bool := x.toBitVec.getLsbD g
abbrev b32 (b : Bool) : Int32 := if b then 1 else 0
/-- the graph: who calls whom, who comes to whom, the order -/
def RG (I : Nat → Nat → Int32) (n : Nat) (dir com : Nat → Nat → Bool) (ord : Nat → Nat) : Prop :=
  (∀ f g, f < n → g < n → hb (I 19 f) g = dir f g ∧ hb (I 20 f) g = com f g ∧ I 172 (24 * f + g) = b32 (dir f g) ∧ I 171 (24 * f + g) = b32 (com f g)) ∧
  ∀ k, k < n → I 18 k = nI (ord k) ∧ I 173 k = nI (ord k)
/-- the order: each function once; whom a function calls, if not in a circle, before it -/
def ord_ok (A : List Fn) (dir com : Nat → Nat → Bool) (ord : Nat → Nat) : Prop :=
  (∀ k, k < A.length → ord k < A.length) ∧ (∀ i j, i < A.length → j < A.length → ord i = ord j → i = j) ∧ (∀ f, f < A.length → ∃ k, k < A.length ∧ ord k = f) ∧
  (∀ k g, k < A.length → dir (ord k) g = true → com g g = false → ∃ j, j < k ∧ ord j = g) ∧ ∀ f F g, A[f]? = some F → nI g ∈ fo_g (fnB F) → g < A.length → dir f g = true
/-- parameters of a function of a program, by its number -/
def parOf (A : List Fn) (v : Int32) : Nat := ((A[v.toNatClampNeg]?).map fnP).getD 0
/-- code that keeps to its slots and temps: H is the height and how many slots are set, by place -/
def cd_at (A : List Fn) (own S T n : Nat) (H : Nat → Nat × Nat) (pc : Nat) (q : Int32 × Int32) : Prop :=
  (H pc).1 ≤ T ∧ (H pc).2 ≤ S ∧
  ((q.1 = 1 ∧ pc + 1 < n ∧ (H (pc + 1)).1 = (H pc).1 + 1 ∧ (H (pc + 1)).2 ≤ (H pc).2) ∨
   (q.1 = 2 ∧ (∃ s, q.2 = nI s ∧ s < (H pc).2) ∧ pc + 1 < n ∧ (H (pc + 1)).1 = (H pc).1 + 1 ∧ (H (pc + 1)).2 ≤ (H pc).2) ∨
   ((∃ j, 3 ≤ j ∧ j ≤ 9 ∧ q.1 = nI j) ∧ pc + 1 < n ∧ (H (pc + 1)).1 + 1 = (H pc).1 ∧ 1 ≤ (H (pc + 1)).1 ∧ (H (pc + 1)).2 ≤ (H pc).2) ∨
   ((q.1 = 10 ∨ q.1 = 11) ∧ pc + 1 < n ∧ (H (pc + 1)).1 = (H pc).1 ∧ 1 ≤ (H pc).1 ∧ (H (pc + 1)).2 ≤ (H pc).2) ∨
   (q.1 = 12 ∧ pc + 1 < n ∧ (H (pc + 1)).1 + 1 = (H pc).1 ∧ (H (pc + 1)).2 ≤ (H pc).2) ∨
   (q.1 = 13 ∧ (∃ s, q.2 = nI s ∧ s < S ∧ s ≤ (H pc).2 ∧ (H (pc + 1)).2 ≤ max (s + 1) (H pc).2) ∧ pc + 1 < n ∧ (H (pc + 1)).1 + 1 = (H pc).1) ∨
   (q.1 = 14 ∧ (∃ e, q.2 = nI e ∧ e < n ∧ (H e).1 + 1 = (H pc).1 ∧ (H e).2 ≤ (H pc).2) ∧ pc + 1 < n ∧ (H (pc + 1)).1 + 1 = (H pc).1 ∧ (H (pc + 1)).2 ≤ (H pc).2) ∨
   (q.1 = 15 ∧ ∃ e, q.2 = nI e ∧ e < n ∧ (H e).1 = (H pc).1 ∧ (H e).2 ≤ (H pc).2) ∨
   (q.1 = 16 ∧ (∃ g, q.2 = nI g ∧ g < A.length ∧ parOf A q.2 ≤ (H pc).1) ∧ pc + 1 < n ∧ (H (pc + 1)).1 + parOf A q.2 = (H pc).1 + 1 ∧ (H (pc + 1)).2 ≤ (H pc).2) ∨
   (q.1 = 17 ∧ 1 ≤ (H pc).1) ∨
   (q.1 = 18 ∧ parOf A (nI own) ≤ (H pc).1) ∨
   (q.1 = 19 ∧ ∃ g, q.2 = nI g ∧ g < A.length ∧ parOf A q.2 ≤ (H pc).1))
def cd_ok (A : List Fn) (own : Nat) (F : Fn) : Prop := fnP F ≤ fnS F ∧ 0 ≤ fnT F ∧ fnS F ≤ 200 ∧ fnT F ≤ 600 ∧ 0 < (fnC F).length ∧ (fnC F).length ≤ 1000 ∧ ∃ H : Nat → Nat × Nat, (H 0).1 = 0 ∧ (H 0).2 ≤ fnP F ∧ ∀ pc q, (fnC F)[pc]? = some q → cd_at A own (fnS F) (fnT F) (fnC F).length H pc q
/-- a function's expression: well formed, variables told once -/
def fn_ok (A : List Fn) (M V : Nat) (F : Fn) : Prop :=
  nm_ok (fnN F) ∧ fnP F ≤ 6 ∧ fnP F ≤ fnV F ∧ fnV F ≤ V ∧ fo_l (fnB F) = 1 ∧ fo_n (fnB F) ≤ M ∧ fo_w A.length (parOf A) (fnB F) (fun _ => (List.range (fnP F)).map nI) ∧ ((List.range (fnP F)).map nI ++ fo_b (fnB F)).Nodup ∧ ∀ v ∈ fo_b (fnB F), ∃ j, v = nI j ∧ fnP F ≤ j ∧ j < fnV F
def fnD : Fn := ([], 0, 0, .leaf, 0, [], 0, 0, 0)
def fAt (L : List Fn) (f : Nat) : Fn := (L[f]?).getD fnD
/-- code, slots and temps are those of the expression -/
def srcOk (tl : Bool) (f : Nat) (F : Fn) : Prop := fnC F = eTC tl f (fnP F) (fnB F) ∧ fnS F = eTZ (fnP F) (fnB F) ∧ fnT F = eTM tl (fnB F)
abbrev bCl (L : List Fn) : Nat → Nat → Bool := fun f g => cCal (fnC (fAt L f)) g
abbrev bTl (L : List Fn) : Nat → Nat → Bool := fun f g => cTal (fnC (fAt L f)) g
abbrev bFr (L : List Fn) : Nat → Nat := fun f => 2 + fnS (fAt L f) + fnT (fAt L f)
/-- the bounds are those of the code -/
def bdOk (L : List Fn) : Prop := ∃ b, isBd L.length (bCl L) (bTl L) (bFr L) b ∧ ∀ f F, L[f]? = some F → fnU F = if bNon L.length (bCl L) (bTl L) f = true then -1 else nI (b f)
/-- the places of which the rest speaks -/
def rp (c k : Nat) : Bool := (Nat.ble 96 c && Nat.ble c 143) || (Nat.ble 18 c && Nat.ble c 20) || (Nat.ble 146 c && Nat.ble c 156) || (Nat.ble 171 c && Nat.ble c 173) || (Nat.ble 182 c && Nat.ble c 186) || Nat.beq c 188 || (Nat.beq c 0 && (Nat.beq k 11 || Nat.beq k 12)) || (Nat.beq c 144 && (Nat.beq k 11 || Nat.beq k 33))
def mI (t : gSt) (ad : Nat → Nat) (c k : Nat) : Int32 := if c < 199 ∧ rp c k = true then t.2.1 (ad c) k else 0
def mJ (t : gSt) (ad : Nat → Nat) (c k : Nat) : Int64 := if c < 199 ∧ rp c k = true then t.2.2.1 (ad c) k else 0
def mR (t : gSt) (ad : Nat → Nat) (c k : Nat) : Option Nat := if c < 199 ∧ rp c k = true then t.2.2.2 (ad c) k else none
/-- source in p, fresh p2, output in 96 -/
def RX (I : Nat → Nat → Int32) (J : Nat → Nat → Int64) (R : Nat → Nat → Option Nat) (ad : Nat → Nat) (p p2 : Nat) (A B : List Fn) (dir com : Nat → Nat → Bool) (ord : Nat → Nat) : Prop :=
  ((p = 112 ∧ p2 = 128) ∨ (p = 128 ∧ p2 = 112)) ∧ R 0 11 = some (ad p) ∧ R 0 12 = some (ad p2) ∧ A.length ≤ 24 ∧ B.length = A.length ∧
  RP I J p A ∧ RP I J 96 B ∧ RM I J A B ∧ RG I A.length dir com ord ∧ ord_ok A dir com ord ∧ (∃ q, I 144 33 = nI q ∧ q ≤ 2000) ∧
  (∀ f F, A[f]? = some F → fn_ok A 400 46 F ∧ cd_ok A f F ∧ fnR F = 0 ∧ srcOk false f F ∧ bdOk A) ∧
  (∀ f F, B[f]? = some F → fn_ok A 500 120 F ∧ cd_ok A f F ∧ ∃ G, A[f]? = some G ∧ fnN F = fnN G ∧ fnP F = fnP G)
def gRest (ad : Nat → Nat) (t : gSt) : Prop := ∃ p p2 A B dir com ord, RX (mI t ad) (mJ t ad) (mR t ad) ad p p2 A B dir com ord
section MM
variable {t u : gSt} {ad : Nat → Nat}
theorem mI_e {c k : Nat} (h : rp c k = true) (hc : c < 199 := by decide) : mI t ad c k = t.2.1 (ad c) k := if_pos ⟨hc, h⟩
theorem mJ_e {c k : Nat} (h : rp c k = true) (hc : c < 199 := by decide) : mJ t ad c k = t.2.2.1 (ad c) k := if_pos ⟨hc, h⟩
theorem mR_e {c k : Nat} (h : rp c k = true) (hc : c < 199 := by decide) : mR t ad c k = t.2.2.2 (ad c) k := if_pos ⟨hc, h⟩
theorem rp_p {p j k : Nat} (hp : isP p) (hj : j < 16) : rp (p + j) k = true := by
  have h1 := hp.ge
  have h2 := hp.lt
  have e1 : Nat.ble 96 (p + j) = true := Nat.ble_eq.mpr (by omega)
  have e2 : Nat.ble (p + j) 143 = true := Nat.ble_eq.mpr (by omega)
  simp only [rp, e1, e2, Bool.true_and, Bool.true_or]
theorem mI_p {p k : Nat} (hp : isP p) (j : Nat) (hj : j < 16 := by decide) : mI t ad (p + j) k = t.2.1 (ad (p + j)) k := mI_e (rp_p hp hj) (by have := hp.lt; omega)
theorem mJ_p {p k : Nat} (hp : isP p) (j : Nat) (hj : j < 16 := by decide) : mJ t ad (p + j) k = t.2.2.1 (ad (p + j)) k := mJ_e (rp_p hp hj) (by have := hp.lt; omega)
/-- the rest stands where only other places have changed -/
theorem gRest.of (hf : ∀ c k, c < 199 → rp c k = true → u.2.1 (ad c) k = t.2.1 (ad c) k ∧ u.2.2.1 (ad c) k = t.2.2.1 (ad c) k ∧ u.2.2.2 (ad c) k = t.2.2.2 (ad c) k) (h : gRest ad t) : gRest ad u := by
  have e1 : mI u ad = mI t ad := by
    funext c k
    unfold mI
    by_cases hc : c < 199 ∧ rp c k = true
    · rw [if_pos hc, if_pos hc]; exact (hf c k hc.1 hc.2).1
    · rw [if_neg hc, if_neg hc]
  have e2 : mJ u ad = mJ t ad := by
    funext c k
    unfold mJ
    by_cases hc : c < 199 ∧ rp c k = true
    · rw [if_pos hc, if_pos hc]; exact (hf c k hc.1 hc.2).2.1
    · rw [if_neg hc, if_neg hc]
  have e3 : mR u ad = mR t ad := by
    funext c k
    unfold mR
    by_cases hc : c < 199 ∧ rp c k = true
    · rw [if_pos hc, if_pos hc]; exact (hf c k hc.1 hc.2).2.2
    · rw [if_neg hc, if_neg hc]
  unfold gRest at h ⊢
  rw [e1, e2, e3]
  exact h
theorem gRest.fr {P : Nat → Nat → Bool} (hf : gFr ad P t u) (hP : ∀ c k, rp c k = true → P c k = false) (h : gRest ad t) : gRest ad u := h.of (fun c k hc hr => hf.2.2 c k hc (hP c k hr))
theorem gRest.ag (hi : ∀ i j, i < 199 → j < 199 → ad i = ad j → i = j) (hf : g_ag ad t u) (h : gRest ad t) : gRest ad u := by
  refine h.of (fun c k hc hr => ⟨hf.2.2 _ k ?_ ?_ ?_ ?_ ?_ ?_, by rw [hf.2.1], by rw [hf.2.1]⟩)
  · intro e
    have := hi _ _ hc (by decide) e
    subst this
    cases hr
  · intro e
    have := hi _ _ hc (by decide) e
    subst this
    cases hr
  · intro e
    have := hi _ _ hc (by decide) e
    subst this
    cases hr
  · intro e
    have := hi _ _ hc (by decide) e
    subst this
    cases hr
  · rintro ⟨e, e2⟩
    have := hi _ _ hc (by decide) e
    subst this
    rcases e2 with rfl | rfl <;> cases hr
  · rintro ⟨e, e2⟩
    have := hi _ _ hc (by decide) e
    subst this
    rcases e2 with rfl | rfl | rfl <;> cases hr
end MM
