/-! THE POOLED WORLD: memory by cell and place (ints, longs, references); the shape: which cells there are, of which kind (0 .. 12 the classes by their numbers in vwCl; 13 byte[], 14 char[], 15 int[], 16 long[], 17 boolean[], 18 int[][]), how long -/
abbrev gM : Type := (Nat → Nat → Int32) × (Nat → Nat → Int64) × (Nat → Nat → Option Nat)
abbrev gSh : Type := List Nat × (Nat → Nat) × (Nat → Nat)
abbrev gSt : Type := gSh × gM
def g_up {α : Type} (f : Nat → Nat → α) (a k : Nat) (v : α) : Nat → Nat → α := fun b j => if b = a then (if j = k then v else f b j) else f b j
def g_si (t : gSt) (a k : Nat) (v : Int32) : gSt := (t.1, g_up t.2.1 a k v, t.2.2.1, t.2.2.2)
def g_sj (t : gSt) (a k : Nat) (v : Int64) : gSt := (t.1, t.2.1, g_up t.2.2.1 a k v, t.2.2.2)
def g_sr (t : gSt) (a k : Nat) (v : Option Nat) : gSt := (t.1, t.2.1, t.2.2.1, g_up t.2.2.2 a k v)
def g_k (t : gSt) (a k : Nat) : Prop := a ∈ t.1.1 ∧ t.1.2.1 a = k
def g_cl (c : Nat) : vw_C := vwCl.getD c (RX0, TX0, 0)
def g_tyF (c : Nat) : Nat → FieldType := [tyX0, tyX1, tyX2, tyX3, tyX4, tyX5, tyX6, tyX7, tyX8, tyX9, tyX10, tyX11, tyX12].getD c (fun _ => .int)
def g_fv (t : gSt) (a j : Nat) (ty : FieldType) : Value := match ty with
  | .long => .long (t.2.2.1 a j)
  | .object _ => va_rf (t.2.2.2 a j)
  | .array _ => va_rf (t.2.2.2 a j)
  | .float => .float 0
  | .double => .double 0
  | _ => .int (t.2.1 a j)
def g_fs (t : gSt) (c a : Nat) : List Value := (List.range (g_cl c).2.2).map (fun j => g_fv t a j (g_tyF c j))
def g_cell (cy : Nat → ClassId) (t : gSt) (a : Nat) : va_E :=
  if t.1.2.1 a = 13 then .inl (cy 0, t.1.2.2 a, .inl (t.2.1 a))
  else if t.1.2.1 a = 14 then .inl (cy 1, t.1.2.2 a, .inl (t.2.1 a))
  else if t.1.2.1 a = 15 then .inl (cy 2, t.1.2.2 a, .inl (t.2.1 a))
  else if t.1.2.1 a = 16 then .inl (cy 3, t.1.2.2 a, .inr (.inl (t.2.2.1 a)))
  else if t.1.2.1 a = 17 then .inl (cy 4, t.1.2.2 a, .inl (t.2.1 a))
  else if t.1.2.1 a = 18 then .inl (cy 5, t.1.2.2 a, .inr (.inr (.inr (.inr (t.2.2.2 a)))))
  else .inr (t.1.2.1 a, g_fs t (t.1.2.1 a) a)
def g_w (cy : Nat → ClassId) (t : gSt) : va_W := va_pl t.1.1 (g_cell cy t)
abbrev g_tys (cy : Nat → ClassId) : List (ClassId × FieldType) := [(cy 0, .byte), (cy 1, .char), (cy 2, .int), (cy 3, .long), (cy 4, .boolean), (cy 5, .array .int)]
theorem g_cl_ok : ∀ c, c < 13 → vwCl[c]? = some (g_cl c) := by
  intro c h
  rw [g_cl, List.getD_eq_getElem?_getD]
  have : c < vwCl.length := h
  rw [List.getElem?_eq_getElem this]
  rfl
/-- the words of the table that hold on when the machine has moved -/
def g_tb : List Cond := lw_tbl.filter goodWord
theorem g_tb_of {w : Cond} (h : w ∈ lw_tbl) (hg : goodWord w = true) : w ∈ g_tb := List.mem_filter.mpr ⟨h, hg⟩
theorem g_tb_in {i : Nat} {w : Cond} (h : tables_1[i]? = some w) (hg : goodWord w = true) : w ∈ g_tb := g_tb_of (List.mem_append_right _ (List.mem_of_getElem? h)) hg
theorem g_tb_good {w : Cond} (h : w ∈ g_tb) : goodWord w = true := (List.mem_filter.mp h).2
theorem g_lay_good (C : String) (T : u_T) (k : Nat) : goodWord (u_lay C T k) = true := by
  unfold u_lay
  split <;> rfl
theorem g_cl_in0 : ∀ c, c < 13 → ∀ w ∈ u_ws (g_cl c).1 (g_cl c).2.1 (g_cl c).2.2, w ∈ lw_tbl := by
  intro c h
  match c, h with
  | 0, _ => exact inX0
  | 1, _ => exact inX1
  | 2, _ => exact inX2
  | 3, _ => exact inX3
  | 4, _ => exact inX4
  | 5, _ => exact inX5
  | 6, _ => exact inX6
  | 7, _ => exact inX7
  | 8, _ => exact inX8
  | 9, _ => exact inX9
  | 10, _ => exact inX10
  | 11, _ => exact inX11
  | 12, _ => exact inX12
  | c + 13, h => exact absurd h (by omega)
theorem g_cl_in (c : Nat) (h : c < 13) : ∀ w ∈ u_ws (g_cl c).1 (g_cl c).2.1 (g_cl c).2.2, w ∈ g_tb := by
  intro w hw
  refine g_tb_of (g_cl_in0 c h w hw) ?_
  obtain ⟨k, -, rfl⟩ := List.mem_map.mp hw
  exact g_lay_good _ _ _
theorem g_ty_ok : ∀ c, c < 13 → ∀ k, k < (g_cl c).2.2 → parseFieldDescriptor ((g_cl c).2.1 k).2.2.1 = some (g_tyF c k) := by
  intro c h
  match c, h with
  | 0, _ => exact tyX0_ok
  | 1, _ => exact tyX1_ok
  | 2, _ => exact tyX2_ok
  | 3, _ => exact tyX3_ok
  | 4, _ => exact tyX4_ok
  | 5, _ => exact tyX5_ok
  | 6, _ => exact tyX6_ok
  | 7, _ => exact tyX7_ok
  | 8, _ => exact tyX8_ok
  | 9, _ => exact tyX9_ok
  | 10, _ => exact tyX10_ok
  | 11, _ => exact tyX11_ok
  | 12, _ => exact tyX12_ok
  | c + 13, h => exact absurd h (by omega)
theorem g_nm_ok : ∀ c, c < 13 → ∀ a, a < (g_cl c).2.2 → ∀ b, b < (g_cl c).2.2 → a ≠ b → ((g_cl c).2.1 a).2.1 ≠ ((g_cl c).2.1 b).2.1 := by
  intro c h
  match c, h with
  | 0, _ => exact nmX0
  | 1, _ => exact nmX1
  | 2, _ => exact nmX2
  | 3, _ => exact nmX3
  | 4, _ => exact nmX4
  | 5, _ => exact nmX5
  | 6, _ => exact nmX6
  | 7, _ => exact nmX7
  | 8, _ => exact nmX8
  | 9, _ => exact nmX9
  | 10, _ => exact nmX10
  | 11, _ => exact nmX11
  | 12, _ => exact nmX12
  | c + 13, h => exact absurd h (by omega)
theorem g_at {cy : Nat → ClassId} {t : gSt} {a : Nat} (h : a ∈ t.1.1) : ∃ q : Nat, (g_w cy t)[q]? = some (a, g_cell cy t a) := va_pl_get (X := []) (f := g_cell cy t) h
theorem g_set {A : Nat → Prop} {cy : Nat → ClassId} {t u : gSt} {a q : Nat} (hs : u.1 = t.1) (hD : va_D A (g_w cy t)) (ha : a ∈ t.1.1) (hq : (g_w cy t)[q]? = some (a, g_cell cy t a)) (ho : ∀ b, b ≠ a → g_cell cy u b = g_cell cy t b) : (g_w cy t).set q (a, g_cell cy u a) = g_w cy u := by
  have h := va_pl_set (X := []) (e := g_cell cy u a) hD ha hq
  refine (show (g_w cy t).set q (a, g_cell cy u a) = va_pl t.1.1 (va_up (g_cell cy t) a (g_cell cy u a)) from h).trans ?_
  rw [g_w, hs]
  refine va_pl_congr (fun b => ?_)
  by_cases hb : b = a
  · subst hb
    rw [va_up_self]
  · rw [va_up_ne _ _ hb, ho b hb]
theorem g_cell_obj {cy : Nat → ClassId} {t : gSt} {a c : Nat} (h : t.1.2.1 a = c) (hc : c < 13) : g_cell cy t a = .inr (c, g_fs t c a) := by
  unfold g_cell
  rw [h]
  rw [if_neg (by omega), if_neg (by omega), if_neg (by omega), if_neg (by omega), if_neg (by omega), if_neg (by omega)]
theorem g_fs_get {t : gSt} {c a j : Nat} (hj : j < (g_cl c).2.2) : (g_fs t c a)[j]? = some (g_fv t a j (g_tyF c j)) := by
  unfold g_fs
  rw [List.getElem?_map, List.getElem?_range hj]
  rfl
theorem g_fs_len {t : gSt} {c a : Nat} : (g_fs t c a).length = (g_cl c).2.2 := by
  unfold g_fs
  rw [List.length_map, List.length_range]
theorem g_up_ne {α : Type} {f : Nat → Nat → α} {a k b : Nat} {v : α} (h : b ≠ a) : g_up f a k v b = f b := by
  funext j
  simp [g_up, h]
theorem g_up_at {α : Type} {f : Nat → Nat → α} {a k : Nat} {v : α} : g_up f a k v a = va_up (f a) k v := by
  funext j
  simp [g_up, va_up]
theorem g_up_j {α : Type} {f : Nat → Nat → α} {a k j : Nat} {v : α} (h : j ≠ k) : g_up f a k v a j = f a j := by simp [g_up, h]
theorem g_up_v {α : Type} {f : Nat → Nat → α} {a k : Nat} {v : α} : g_up f a k v a k = v := by simp [g_up]
/-- a cell depends on its own memory alone -/
theorem g_cell_eq {cy : Nat → ClassId} {t u : gSt} {b : Nat} (hs : u.1 = t.1) (h1 : u.2.1 b = t.2.1 b) (h2 : u.2.2.1 b = t.2.2.1 b) (h3 : u.2.2.2 b = t.2.2.2 b) : g_cell cy u b = g_cell cy t b := by
  have hf : ∀ c, g_fs u c b = g_fs t c b := by
    intro c
    unfold g_fs
    refine List.map_congr_left (fun j _ => ?_)
    unfold g_fv
    rw [h1, h2, h3]
  unfold g_cell
  rw [hs, h1, h2, h3, hf]
theorem g_fs_set {t u : gSt} {c a j : Nat} {v : Value} (hj : j < (g_cl c).2.2) (hv : g_fv u a j (g_tyF c j) = v) (ho : ∀ i, i ≠ j → ∀ ty, g_fv u a i ty = g_fv t a i ty) : (g_fs t c a).set j v = g_fs u c a := by
  apply List.ext_getElem?
  intro i
  by_cases hi : i = j
  · subst hi
    rw [List.getElem?_set_self (by rw [g_fs_len]; exact hj), g_fs_get hj, hv]
  · rw [List.getElem?_set_ne (fun h => hi h.symm)]
    by_cases hl : i < (g_cl c).2.2
    · rw [g_fs_get hl, g_fs_get hl, ho i hi]
    · rw [List.getElem?_eq_none (by rw [g_fs_len]; omega), List.getElem?_eq_none (by rw [g_fs_len]; omega)]
/-- storing v, of type ty, at place j of cell a: what the memory is then -/
def g_put (t : gSt) (a j : Nat) (ty : FieldType) (v : Value) (k : gSt → Prop) : Prop := match ty with
  | .long => (match v with
    | .long x => k (g_sj t a j x)
    | _ => False)
  | .object _ => (match v with
    | .ref b => k (g_sr t a j (some b))
    | .null => k (g_sr t a j none)
    | _ => False)
  | .array _ => (match v with
    | .ref b => k (g_sr t a j (some b))
    | .null => k (g_sr t a j none)
    | _ => False)
  | .float => False
  | .double => False
  | .int => (match v with
    | .int x => k (g_si t a j x)
    | _ => False)
  | ty => (match v with
    | .int x => (narrow ty (.int x) = .int x ∧ fits ty (.int x) = true) ∧ k (g_si t a j x)
    | _ => False)
theorem g_put_inv {t : gSt} {a j : Nat} {ty : FieldType} {v : Value} {k : gSt → Prop} (h : g_put t a j ty v k) : ∃ u : gSt, k u ∧ u.1 = t.1 ∧ narrow ty v = v ∧ fits ty v = true ∧ g_fv u a j ty = v ∧ (∀ i, i ≠ j → ∀ ty2, g_fv u a i ty2 = g_fv t a i ty2) ∧ ∀ b, b ≠ a → u.2.1 b = t.2.1 b ∧ u.2.2.1 b = t.2.2.1 b ∧ u.2.2.2 b = t.2.2.2 b := by
  have hi : ∀ x, (∀ i, i ≠ j → ∀ ty2, g_fv (g_si t a j x) a i ty2 = g_fv t a i ty2) ∧ ∀ b, b ≠ a → (g_si t a j x).2.1 b = t.2.1 b ∧ (g_si t a j x).2.2.1 b = t.2.2.1 b ∧ (g_si t a j x).2.2.2 b = t.2.2.2 b := by
    intro x
    refine ⟨fun i h ty2 => ?_, fun b h => ⟨g_up_ne h, rfl, rfl⟩⟩
    unfold g_fv
    rw [show (g_si t a j x).2.1 a i = t.2.1 a i from g_up_j h]
    rfl
  have hj : ∀ x, (∀ i, i ≠ j → ∀ ty2, g_fv (g_sj t a j x) a i ty2 = g_fv t a i ty2) ∧ ∀ b, b ≠ a → (g_sj t a j x).2.1 b = t.2.1 b ∧ (g_sj t a j x).2.2.1 b = t.2.2.1 b ∧ (g_sj t a j x).2.2.2 b = t.2.2.2 b := by
    intro x
    refine ⟨fun i h ty2 => ?_, fun b h => ⟨rfl, g_up_ne h, rfl⟩⟩
    unfold g_fv
    rw [show (g_sj t a j x).2.2.1 a i = t.2.2.1 a i from g_up_j h]
    rfl
  have hr : ∀ x, (∀ i, i ≠ j → ∀ ty2, g_fv (g_sr t a j x) a i ty2 = g_fv t a i ty2) ∧ ∀ b, b ≠ a → (g_sr t a j x).2.1 b = t.2.1 b ∧ (g_sr t a j x).2.2.1 b = t.2.2.1 b ∧ (g_sr t a j x).2.2.2 b = t.2.2.2 b := by
    intro x
    refine ⟨fun i h ty2 => ?_, fun b h => ⟨rfl, rfl, g_up_ne h⟩⟩
    unfold g_fv
    rw [show (g_sr t a j x).2.2.2 a i = t.2.2.2 a i from g_up_j h]
    rfl
  cases ty <;> cases v <;> simp only [g_put] at h <;> first
    | exact h.elim
    | exact ⟨_, h.2, rfl, h.1.1, h.1.2, congrArg Value.int g_up_v, (hi _).1, (hi _).2⟩
    | exact ⟨_, h, rfl, rfl, rfl, congrArg Value.int g_up_v, (hi _).1, (hi _).2⟩
    | exact ⟨_, h, rfl, rfl, rfl, congrArg Value.long g_up_v, (hj _).1, (hj _).2⟩
    | exact ⟨_, h, rfl, rfl, rfl, congrArg va_rf g_up_v, (hr _).1, (hr _).2⟩
section GR
variable {p : Program} {l : Launch} {e : Env} {R : Room} {s : State} {m : MethodId} {args : Array Value} {below : List Frame} {meth : Method} {c : Code} {H : Heap} {locs : List Loc} {cells slots : Nat} {Q : State → Prop}
variable {cc : ByteArray} {pc : Nat} {ls : Array Slot} {rest : List Value} {D : va_G} {cy : Nat → ClassId} {A : Nat → Prop} {t : gSt} {H0 : Heap}
theorem g_getf (hx : p.tables.exec = Jvm.exec) (hb : c.code = cc) (hts : ∀ w ∈ g_tb, w.before args s = true) {own : String} (hown : s.vm.findClass own = some m.cls) (hK : va_K D vwCl (g_tys cy) s) (hP : va_P D vwCl (g_w cy t) H) {a ci j index : Nat} (hk : g_k t a ci) (hc : ci < 13) (hj : j < (g_cl ci).2.2) (hlink : Cond.fieldLink own index ((g_cl ci).2.1 j).1 ((g_cl ci).2.1 j).2.1 ((g_cl ci).2.1 j).2.2.1 ∈ g_tb) (hdg : decode cc pc = .ok (.getfield index, 3))
    (kk : W p l e R s m args below meth c H locs cells slots Q (F0 m (pc + 3) ls (g_fv t a j (g_tyF ci j) :: rest))) : W p l e R s m args below meth c H locs cells slots Q (F0 m pc ls (.ref a :: rest)) := by
  obtain ⟨q, hq⟩ := g_at (cy := cy) hk.1
  rw [g_cell_obj hk.2 hc] at hq
  exact va_get (C := (g_cl ci).1) (T := (g_cl ci).2.1) (N := (g_cl ci).2.2) hx hb hts (g_cl_in ci hc) hown hK hP q hq (g_cl_ok ci hc) j hj (hts _ hlink) (fun _ h => h) (g_fs_get hj) hdg kk
theorem g_putf (hx : p.tables.exec = Jvm.exec) (hb : c.code = cc) (hts : ∀ w ∈ g_tb, w.before args s = true) {own : String} (hown : s.vm.findClass own = some m.cls) (hK : va_K D vwCl (g_tys cy) s) (hP : va_P D vwCl (g_w cy t) H) (hD : va_D A (g_w cy t)) (hS : va_S A H0 H locs) {a ci j index : Nat} (hk : g_k t a ci) (hc : ci < 13) (hj : j < (g_cl ci).2.2) (hlink : Cond.fieldLink own index ((g_cl ci).2.1 j).1 ((g_cl ci).2.1 j).2.1 ((g_cl ci).2.1 j).2.2.1 ∈ g_tb) (hfin : ((g_cl ci).2.1 j).2.2.2 = true → meth.name = "<init>" ∧ ((g_cl ci).2.1 j).1 = own) {v : Value} {k : gSt → Prop} (hv : g_put t a j (g_tyF ci j) v k) (hdg : decode cc pc = .ok (.putfield index, 3))
    (kk : ∀ (u : gSt) (H1 : Heap) (locs1 : List Loc), k u → va_P D vwCl (g_w cy u) H1 → va_D A (g_w cy u) → va_S A H0 H1 locs1 → W p l e R s m args below meth c H1 locs1 cells slots Q (F0 m (pc + 3) ls rest)) : W p l e R s m args below meth c H locs cells slots Q (F0 m pc ls (v :: .ref a :: rest)) := by
  obtain ⟨u, hu, hs, hn, hf, hg, ho, hr⟩ := g_put_inv hv
  obtain ⟨q, hq⟩ := g_at (cy := cy) hk.1
  have hset : (g_w cy t).set q (a, .inr (ci, (g_fs t ci a).set j v)) = g_w cy u := by
    rw [g_fs_set hj hg ho, ← g_cell_obj (cy := cy) (show u.1.2.1 a = ci by rw [hs]; exact hk.2) hc]
    exact g_set hs hD hk.1 hq (fun b hb => g_cell_eq hs (hr b hb).1 (hr b hb).2.1 (hr b hb).2.2)
  rw [g_cell_obj hk.2 hc] at hq
  by_cases hfi : ((g_cl ci).2.1 j).2.2.2 = true
  · refine va_putF (C := (g_cl ci).1) (T := (g_cl ci).2.1) (N := (g_cl ci).2.2) hx hb hts (g_cl_in ci hc) (g_tyF ci) (g_ty_ok ci hc) (g_nm_ok ci hc) hown hK hP hD hS q hq (g_cl_ok ci hc) j hj (hts _ hlink) (fun _ h => h) hfi (hfin hfi).1 (hfin hfi).2 (g_ty_ok ci hc j hj) hn hf (by rw [g_fs_len]; exact hj) hdg (fun H1 locs1 h1 h2 h3 => ?_)
    rw [hset] at h1 h2
    exact kk u H1 locs1 hu h1 h2 h3
  · refine va_put (C := (g_cl ci).1) (T := (g_cl ci).2.1) (N := (g_cl ci).2.2) hx hb hts (g_cl_in ci hc) (g_tyF ci) (g_ty_ok ci hc) (g_nm_ok ci hc) hown hK hP hD hS q hq (g_cl_ok ci hc) j hj (hts _ hlink) (fun _ h => h) (Bool.not_eq_true _ ▸ hfi) (g_ty_ok ci hc j hj) hn hf (by rw [g_fs_len]; exact hj) hdg (fun H1 locs1 h1 h2 h3 => ?_)
    rw [hset] at h1 h2
    exact kk u H1 locs1 hu h1 h2 h3
end GR
