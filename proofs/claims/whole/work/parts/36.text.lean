/-! THE TEXT OF AN EXPRESSION; the class's writer, byte by byte -/
def dgs : Nat → Nat → List Nat
  | 0, _ => []
  | f + 1, n => if n < 10 then [48 + n] else dgs f (n / 10) ++ [48 + n % 10]
def num_t (v : Int32) : List Nat := if v < 0 then [40, 45] ++ dgs 10 v.toInt.natAbs ++ [41] else dgs 10 v.toInt.natAbs
def var_t (v : Int32) : List Nat := 118 :: dgs 10 v.toInt.natAbs
def op_t (nm : Int32 → List Nat) (k v : Int32) : List Nat := if k = 1 then num_t v else if k = 2 then var_t v else if k = 10 then [40, 45] else if k = 11 then [112, 117, 116, 40] else if k = 13 then [40, 105, 102, 32] else if k = 14 then [40, 108, 101, 116, 32] ++ var_t v ++ [61] else if k = 15 then nm v ++ [40] else [40]
def cl_t (k : Int32) : List Nat := if k = 1 ∨ k = 2 then [] else [41]
def ch_t (k : Int32) : List Nat := if k = 3 then [43] else if k = 4 then [45] else if k = 5 then [42] else if k = 6 then [47] else if k = 7 then [37] else if k = 8 then [60] else []
def se_t (k : Int32) (i m : Nat) : List Nat := if i + 1 < m then (if k = 9 then [61, 61] else if k = 12 then [59] else if k = 13 then (if i = 0 then [32, 116, 104, 101, 110, 32] else [32, 101, 108, 115, 101, 32]) else if k = 14 then [32, 105, 110, 32] else if k = 15 then [44] else ch_t k) else []
/-- the text of a forest of kids: of a node of kind pk, the first being kid i of m -/
def fo_t (nm : Int32 → List Nat) : Fo → Int32 → Nat → Nat → List Nat
  | .inner _ k v a b, pk, i, m => op_t nm k v ++ fo_t nm a k 0 (fo_l a) ++ cl_t k ++ se_t pk i m ++ fo_t nm b pk (i + 1) m
  | .leaf, _, _, _ => []
/-- the text of a tree -/
def tr_t (nm : Int32 → List Nat) : Fo → List Nat
  | .inner _ k v a _ => op_t nm k v ++ fo_t nm a k 0 (fo_l a) ++ cl_t k
  | .leaf => []
/-- places of the writer that change but for its walk -/
def baP (v2 c k : Nat) : Bool := Nat.beq c v2 || (Nat.beq c 83 && (Nat.beq k 5 || Nat.beq k 6))
def abP (v2 c k : Nat) : Bool := Nat.beq c 92 || baP v2 c k
/-- the draft holds the bytes l, as far as there is room -/
def Qc (ad : Nat → Nat) (v2 : Nat) (l : List Nat) (t : gSt) : Prop := t.2.1 (ad 83) 5 = nI (min l.length 6000) ∧ t.2.1 (ad 83) 6 = b32 (decide (6000 < l.length)) ∧ ∀ j c, l[j]? = some c → j < 6000 → t.2.1 (ad v2) j = nI c
theorem by_nar : ∀ x, x < 128 → vp_nar .byte (nI x).toInt8.toInt32 = nI x := by decide +kernel
section TX
variable {cx : gCx} {d : Nat} {ad : Nat → Nat} {t : gSt} {post : Option Value → gSt → Prop} {v2 : Nat} {l : List Nat}
theorem m_addByte {x : Nat} (hv : isV v2) (hL : Lay t ad) (hr : t.2.2.2 (ad 83) 2 = some (ad v2)) (hx : x < 128) (hQ : Qc ad v2 l t) (h : ∀ u, gFr ad (baP v2) t u → Qc ad v2 (l ++ [x]) u → post none u) : g_E cx (d + 1) i_Writer_addByte [.ref (ad 83), .int (nI x)] t post := by
  obtain ⟨h1, h2, h3⟩ := hQ
  have hvl : v2 < 199 ∧ v2 ≠ 83 := by rcases hv with rfl | rfl <;> decide
  have hvt : baP v2 v2 (min l.length 6000) = true := by
    unfold baP
    rw [show Nat.beq v2 v2 = true from Nat.beq_refl v2, Bool.true_or]
  have hlen : (l ++ [x]).length = l.length + 1 := by simp
  refine x_Writer_addByte hv hL hr ?_
  rw [h1]
  refine ⟨fun c => ?_, fun c => ?_⟩
  · rw [show (6000 : Int32) = nI 6000 from rfl, nI_ltI (by omega) (by omega)] at c
    have hm : min l.length 6000 = l.length := by omega
    refine ⟨vp_in_nI (by omega) (by omega), fun t1 e1 t2 e2 => ?_⟩
    rw [nI_clamp (by omega), by_nar x hx] at e1
    have F1 : gFr ad (baP v2) t t1 := by rw [e1]; exact (gFr.rf hL).si hvt hvl.1
    have F2 : gFr ad (baP v2) t t2 := by rw [e2]; exact F1.si (by simp [baP])
    refine h t2 F2 ⟨?_, ?_, fun j c hj h6 => ?_⟩
    · rw [e2, g_rd_at, e1, g_rd_ne (hL.ne _ _ (by decide) hvl.1 (Ne.symm hvl.2)), h1, nI_1, hlen]
      congr 1
      omega
    · rw [e2, g_rd_k (by decide), e1, g_rd_ne (hL.ne _ _ (by decide) hvl.1 (Ne.symm hvl.2)), h2, hlen]
      congr 1
      rw [decide_eq_decide]
      omega
    · rw [e2, g_rd_ne (hL.ne _ _ hvl.1 (by decide) hvl.2), e1, hm]
      by_cases ej : j = l.length
      · subst ej
        rw [g_rd_at]
        rw [List.getElem?_append_right (Nat.le_refl _), Nat.sub_self] at hj
        rw [show x = c from by simpa using hj]
      · rw [g_rd_k ej]
        have hjl : j < l.length := by
          have := (List.getElem?_eq_some_iff.mp hj).1
          omega
        rw [List.getElem?_append_left hjl] at hj
        exact h3 j c hj h6
  · rw [show (6000 : Int32) = nI 6000 from rfl, nI_ltI (by omega) (by omega)] at c
    intro t3 e3
    have F3 : gFr ad (baP v2) t t3 := by rw [e3]; exact (gFr.rf hL).si (by simp [baP])
    refine h t3 F3 ⟨?_, ?_, fun j c hj h6 => ?_⟩
    · rw [e3, g_rd_k (by decide), h1, hlen]
      congr 1
      omega
    · rw [e3, g_rd_at, hlen, show decide (6000 < l.length + 1) = true from decide_eq_true (by omega)]
      rfl
    · rw [e3, g_rd_ne (hL.ne _ _ hvl.1 (by decide) hvl.2)]
      rw [List.getElem?_append_left (by omega)] at hj
      exact h3 j c hj h6
theorem baP_r {c k : Nat} (hv : isV v2) (h : (c = 83 ∧ k ≠ 5 ∧ k ≠ 6) ∨ (c ≠ 90 ∧ c ≠ 91 ∧ c ≠ 83)) : baP v2 c k = false := by
  have e : ∀ a b : Nat, a ≠ b → Nat.beq a b = false := fun a b h => Bool.eq_false_iff.mpr (fun q => h (Nat.eq_of_beq_eq_true q))
  unfold baP
  rcases h with ⟨rfl, h1, h2⟩ | ⟨h2, h3, h4⟩
  · rw [e k 5 h1, e k 6 h2, e 83 v2 (by rcases hv with rfl | rfl <;> decide)]
    rfl
  · rw [e c v2 (by rcases hv with rfl | rfl; exact h2; exact h3), e c 83 h4]
    rfl
theorem abP_r {c k : Nat} (hv : isV v2) (h : (c = 83 ∧ k ≠ 5 ∧ k ≠ 6) ∨ (c ≠ 92 ∧ c ≠ 90 ∧ c ≠ 91 ∧ c ≠ 83)) : abP v2 c k = false := by
  have e : ∀ a b : Nat, a ≠ b → Nat.beq a b = false := fun a b h => Bool.eq_false_iff.mpr (fun q => h (Nat.eq_of_beq_eq_true q))
  unfold abP
  rw [baP_r hv (by omega), e c 92 (by omega)]
  rfl
theorem gFr.ab {t u : gSt} (h : gFr ad (baP v2) t u) : gFr ad (abP v2) t u := h.mo (fun c k q => by unfold abP; rw [q, Bool.or_true])
def tb (i : Nat) : List Nat := (g_stb.getD i []).map Int32.toNatClampNeg
theorem tb_ok : (List.range 16).all (fun i => decide ((tb i).length = g_stl.getD i 0) && (List.range (g_stl.getD i 0)).all (fun j => decide ((g_stb.getD i []).getD j 0 = nI ((tb i).getD j 0)) && decide ((tb i).getD j 0 < 128))) = true := by decide +kernel
theorem m_addText {i : Nat} (hc : g_CS cx) (hi : i < 16) (hv : isV v2) (hL : Lay t ad) (hr : t.2.2.2 (ad 83) 2 = some (ad v2)) (hQ : Qc ad v2 l t) (h : ∀ u, gFr ad (baP v2) t u → Qc ad v2 (l ++ tb i) u → post none u) : g_E cx (d + 5) i_Writer_addText [.ref (ad 83), .ref (cx.2.2.1 i)] t post := by
  have hk := List.all_eq_true.mp tb_ok i (List.mem_range.mpr hi)
  rw [Bool.and_eq_true] at hk
  have hlen := of_decide_eq_true hk.1
  have hs := List.all_eq_true.mp g_stb_ok i (List.mem_range.mpr hi)
  rw [Bool.and_eq_true] at hs
  have hsm := of_decide_eq_true hs.1
  refine x_Writer_addText hL ?_
  have loop : ∀ m j (u : gSt), m + j = (tb i).length → gFr ad (baP v2) t u → Qc ad v2 (l ++ (tb i).take j) u → g_W cx (g_E cx (d + 4)) mt_Writer_addText post (2, [some (.ref (ad 83)), some (.ref (cx.2.2.1 i)), some (.int (nI j))], [], u, 0, 0) := by
    intro m
    induction m with
    | zero =>
      intro j u hj hF hq
      refine x_Writer_addText_2 hF.L (c_isStr hc hi) ?_
      refine c_length hc hi ⟨_, rfl, hF.L, fun _ => ?_, fun q => absurd (nI_le (by omega) (by omega)) q⟩
      refine h u hF ?_
      rw [List.take_of_length_le (by omega)] at hq
      exact hq
    | succ m ih =>
      intro j u hj hF hq
      refine x_Writer_addText_2 hF.L (c_isStr hc hi) ?_
      refine c_length hc hi ⟨_, rfl, hF.L, fun q => absurd q (nI_ge (by omega) (by omega)), fun _ => ?_⟩
      refine c_charAt hc hi (by omega) ⟨_, rfl, hF.L, ?_⟩
      have hb := List.all_eq_true.mp hk.2 j (List.mem_range.mpr (by omega))
      rw [Bool.and_eq_true] at hb
      rw [of_decide_eq_true hb.1]
      have hr2 : u.2.2.2 (ad 83) 2 = some (ad v2) := by rw [hF.r 83 2 (baP_r hv (Or.inl ⟨rfl, by decide, by decide⟩))]; exact hr
      refine m_addByte hv hF.L hr2 (of_decide_eq_true hb.2) hq (fun w F2 q2 => ⟨rfl, F2.L, ?_⟩)
      rw [nI_1]
      refine ih (j + 1) w (by omega) (hF.tr F2) ?_
      have e : (tb i).take (j + 1) = (tb i).take j ++ [(tb i).getD j 0] := by
        rw [List.take_add_one, List.getD_eq_getElem?_getD, List.getElem?_eq_getElem (by omega)]
        rfl
      rw [e, ← List.append_assoc]
      exact q2
  exact loop (tb i).length 0 t (by omega) (gFr.rf hL) (by rw [List.take_zero, List.append_nil]; exact hQ)
end TX
