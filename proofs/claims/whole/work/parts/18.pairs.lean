/-! THE FIRST PAIRS: text, place, budget, arguments; the rest of the invariant (Rest) must not speak of their places -/
/-- the same but for the places of text, budget, arguments (and the model's code) -/
def g_ag (ad : Nat → Nat) (t u : gSt) : Prop := u.1 = t.1 ∧ u.2.2 = t.2.2 ∧ ∀ a k, a ≠ ad c_Tr_text → a ≠ ad c_Mo_text → a ≠ ad c_Tr_arguments → a ≠ ad c_Mo_arguments → ¬ (a = ad c_Tr ∧ (k = f_Tr_textLength ∨ k = f_Tr_inlineBudget)) → ¬ (a = ad c_Mo ∧ (k = f_Mo_code ∨ k = f_Mo_textSize ∨ k = f_Mo_budget)) → u.2.1 a k = t.2.1 a k
theorem g_ag.tr {ad : Nat → Nat} {t u w : gSt} (h : g_ag ad t u) (h2 : g_ag ad u w) : g_ag ad t w := ⟨h2.1.trans h.1, h2.2.1.trans h.2.1, fun a k c1 c2 c3 c4 c5 c6 => (h2.2.2 a k c1 c2 c3 c4 c5 c6).trans (h.2.2 a k c1 c2 c3 c4 c5 c6)⟩
theorem g_ag.rf {ad : Nat → Nat} {t : gSt} : g_ag ad t t := ⟨rfl, rfl, fun _ _ _ _ _ _ _ _ => rfl⟩
theorem g_ag.si {ad : Nat → Nat} {t : gSt} {a k : Nat} {v : Int32} (h : (a = ad c_Tr_text ∨ a = ad c_Mo_text ∨ a = ad c_Tr_arguments ∨ a = ad c_Mo_arguments) ∨ (a = ad c_Tr ∧ (k = f_Tr_textLength ∨ k = f_Tr_inlineBudget)) ∨ (a = ad c_Mo ∧ (k = f_Mo_code ∨ k = f_Mo_textSize ∨ k = f_Mo_budget))) : g_ag ad t (g_si t a k v) := by
  refine ⟨rfl, rfl, fun b j c1 c2 c3 c4 c5 c6 => ?_⟩
  by_cases hb : b = a
  · by_cases hj : j = k
    · subst hb; subst hj
      rcases h with (h | h | h | h) | h | h
      · exact absurd h c1
      · exact absurd h c2
      · exact absurd h c3
      · exact absurd h c4
      · exact absurd h c5
      · exact absurd h c6
    · subst hb
      exact g_rd_k hj
  · exact g_rd_ne hb
/-- text, place, budget, arguments, the latest run and what was written latest, of class and model, agree -/
def g_sim (t : gSt) (ad : Nat → Nat) : Prop :=
  (∃ n, n ≤ 3000 ∧ t.2.1 (ad c_Tr) f_Tr_textLength = nI n ∧ t.2.1 (ad c_Mo) f_Mo_textSize = nI n ∧ ∀ j, j < n → t.2.1 (ad c_Tr_text) j = t.2.1 (ad c_Mo_text) j ∧ (t.2.1 (ad c_Mo_text) j).toInt8.toInt32 = t.2.1 (ad c_Mo_text) j) ∧
  t.2.1 (ad c_Tr) f_Tr_faultPlace = t.2.1 (ad c_Mo) f_Mo_place ∧ t.2.1 (ad c_Tr) f_Tr_inlineBudget = t.2.1 (ad c_Mo) f_Mo_budget ∧ (∀ j, j < 6 → t.2.1 (ad c_Tr_arguments) j = t.2.1 (ad c_Mo_arguments) j) ∧
  ((t.2.1 (ad c_Machine) f_Machine_outcome = t.2.1 (ad c_Mo) f_Mo_result ∧ t.2.1 (ad c_Machine) f_Machine_steps = t.2.1 (ad c_Mo) f_Mo_steps ∧ t.2.1 (ad c_Machine) f_Machine_mostWords = t.2.1 (ad c_Mo) f_Mo_most) ∧ ∃ n, n ≤ 200 ∧ t.2.1 (ad c_Machine) f_Machine_putCount = nI n ∧ t.2.1 (ad c_Mo) f_Mo_puts = nI n ∧ ∀ j, j < n → t.2.1 (ad c_Machine_puts) j = t.2.1 (ad c_Mo_putRow) j) ∧
  (∃ n w, n ≤ 6000 ∧ (w = c_Writer_written ∨ w = c_Writer_draft) ∧ t.2.2.2 (ad c_Writer) f_Writer_written = some (ad w) ∧ t.2.1 (ad c_Writer) f_Writer_length = nI n ∧ t.2.1 (ad c_Mo) f_Mo_outSize = nI n ∧ ∀ j, j < n → t.2.1 (ad w) j = t.2.1 (ad c_Mo_out) j ∧ t.2.1 (ad c_Mo_out) j &&& 255 = t.2.1 (ad c_Mo_out) j)
theorem Lay.nm {t : gSt} {ad : Nat → Nat} (h : Lay t ad) (i : Nat) (hi : i < 199) (hn : i ≠ c_Mo) : ad i ≠ ad c_Mo := h.ne i c_Mo hi (by decide) hn
/-- the model's code is spoken of nowhere -/
theorem g_sim.code {t : gSt} {ad : Nat → Nat} {v : Int32} (hL : Lay t ad) (h : g_sim t ad) : g_sim (g_si t (ad c_Mo) f_Mo_code v) ad := by
  have k1 : ∀ j, j ≠ f_Mo_code → (g_si t (ad c_Mo) f_Mo_code v).2.1 (ad c_Mo) j = t.2.1 (ad c_Mo) j := fun j h => g_rd_k h
  have k2 : ∀ i, i < 199 → i ≠ c_Mo → ∀ j, (g_si t (ad c_Mo) f_Mo_code v).2.1 (ad i) j = t.2.1 (ad i) j := fun i h1 h2 j => g_rd_ne (hL.nm i h1 h2)
  obtain ⟨⟨n, a1, a2, a3, a4⟩, b, c, e, ⟨f1, n2, g1, g2, g3, g4⟩, ⟨n3, w, w1, w2, w3, w4, w5, w6⟩⟩ := h
  have hw : w < 199 ∧ w ≠ c_Mo := by rcases w2 with rfl | rfl <;> decide
  refine ⟨⟨n, a1, ?_, ?_, fun j hj => ?_⟩, ?_, ?_, fun j hj => ?_, ⟨⟨?_, ?_, ?_⟩, n2, g1, ?_, ?_, fun j hj => ?_⟩, ⟨n3, w, w1, w2, w3, ?_, ?_, fun j hj => ?_⟩⟩
  · rw [k2 c_Tr (by decide) (by decide)]; exact a2
  · rw [k1 _ (by decide)]; exact a3
  · rw [k2 c_Tr_text (by decide) (by decide), k2 c_Mo_text (by decide) (by decide)]; exact a4 j hj
  · rw [k2 c_Tr (by decide) (by decide), k1 _ (by decide)]; exact b
  · rw [k2 c_Tr (by decide) (by decide), k1 _ (by decide)]; exact c
  · rw [k2 c_Tr_arguments (by decide) (by decide), k2 c_Mo_arguments (by decide) (by decide)]; exact e j hj
  · rw [k2 c_Machine (by decide) (by decide), k1 _ (by decide)]; exact f1.1
  · rw [k2 c_Machine (by decide) (by decide), k1 _ (by decide)]; exact f1.2.1
  · rw [k2 c_Machine (by decide) (by decide), k1 _ (by decide)]; exact f1.2.2
  · rw [k2 c_Machine (by decide) (by decide)]; exact g2
  · rw [k1 _ (by decide)]; exact g3
  · rw [k2 c_Machine_puts (by decide) (by decide), k2 c_Mo_putRow (by decide) (by decide)]; exact g4 j hj
  · rw [k2 c_Writer (by decide) (by decide)]; exact w4
  · rw [k1 _ (by decide)]; exact w5
  · rw [k2 w hw.1 hw.2, k2 c_Mo_out (by decide) (by decide)]; exact w6 j hj
/-- the invariant, its rest open -/
def g_Inv (ad : Nat → Nat) (Rest : gSt → Prop) (t : gSt) : Prop := Lay t ad ∧ g_sim t ad ∧ Rest t
theorem Lay.ag {t u : gSt} {ad : Nat → Nat} (h : Lay t ad) (hf : g_ag ad t u) : Lay u ad := by
  refine ⟨h.1, fun i hi => ?_, fun q hq => ?_⟩
  · unfold g_k
    rw [hf.1]
    exact h.2.1 i hi
  · rw [hf.2.1]
    exact h.2.2 q hq
theorem g_Inv.code {t : gSt} {ad : Nat → Nat} {Rest : gSt → Prop} {v : Int32} (hr : ∀ t u, g_ag ad t u → Rest t → Rest u) (h : g_Inv ad Rest t) : g_Inv ad Rest (g_si t (ad c_Mo) f_Mo_code v) := by
  have hag : g_ag ad t (g_si t (ad c_Mo) f_Mo_code v) := g_ag.si (Or.inr (Or.inr ⟨rfl, Or.inl rfl⟩))
  exact ⟨h.1.ag hag, h.2.1.code h.1, hr _ _ hag h.2.2⟩
theorem p_place {cx : gCx} {d : Nat} {ad : Nat → Nat} {Rest : gSt → Prop} (hr : ∀ t u, g_ag ad t u → Rest t → Rest u) : g_pair cx (d + 2) (g_Inv ad Rest) (ad c_Tr) (ad c_Mo) i_Tr_place i_Mo_place [] := by
  intro t hI post hp
  have hL := hI.1
  refine m_Tr_place (hL.k c_Tr (by decide)) (hp _ t (hL.k c_Mo (by decide)) (fun post2 h2 => ?_))
  refine m_Mo_place (hL.k c_Mo (by decide)) ?_
  rw [← hI.2.1.2.1]
  exact h2 _ (hI.code hr)
theorem p_told {cx : gCx} {d : Nat} {ad : Nat → Nat} {Rest : gSt → Prop} (hr : ∀ t u, g_ag ad t u → Rest t → Rest u) (k : Int32) : g_pair cx (d + 2) (g_Inv ad Rest) (ad c_Tr) (ad c_Mo) i_Tr_told i_Mo_told [.int k] := by
  intro t hI post hp
  have hL := hI.1
  obtain ⟨-, -, -, -, ⟨⟨f1, f2, f3⟩, n, g1, g2, g3, -⟩, -⟩ := hI.2.1
  refine m_Tr_told (hL.k c_Tr (by decide)) (hL.r c_Tr f_Tr_machine c_Machine (by decide)) (hL.k c_Machine (by decide)) (hp _ t (hL.k c_Mo (by decide)) (fun post2 h2 => ?_))
  refine m_Mo_told (hL.k c_Mo (by decide)) ?_
  rw [← f1, ← f2, ← f3, g3, ← g2]
  exact h2 _ (hI.code hr)
theorem g_nth_eq {f g : Nat → Int32} {n : Nat} {z i : Int32} (hn : n < 2 ^ 31) (h : ∀ j, j < n → f j = g j) : g_nth f (nI n) z i = g_nth g (nI n) z i := by
  unfold g_nth
  by_cases c : i < 0 ∨ nI n ≤ i
  · rw [if_pos c, if_pos c]
  · rw [if_neg c, if_neg c]
    obtain ⟨j, hj, e⟩ := nI_of (fun q => c (Or.inl q))
    have hjn : j < n := Nat.lt_of_not_le (fun q => c (Or.inr (by rw [e]; exact nI_le q hj)))
    rw [e, nI_clamp hj]
    exact h j hjn
theorem p_putAt {cx : gCx} {d : Nat} {ad : Nat → Nat} {Rest : gSt → Prop} (hr : ∀ t u, g_ag ad t u → Rest t → Rest u) (i : Int32) : g_pair cx (d + 2) (g_Inv ad Rest) (ad c_Tr) (ad c_Mo) i_Tr_putAt i_Mo_putAt [.int i] := by
  intro t hI post hp
  have hL := hI.1
  obtain ⟨-, -, -, -, ⟨-, n, g1, g2, g3, g4⟩, -⟩ := hI.2.1
  refine m_Tr_putAt (hL.k c_Tr (by decide)) (hL.r c_Tr f_Tr_machine c_Machine (by decide)) (hL.k c_Machine (by decide)) (hL.r c_Machine f_Machine_puts c_Machine_puts (by decide)) (hL.k c_Machine_puts (by decide)) (hL.l c_Machine_puts (by decide)) g2 g1 (hp _ t (hL.k c_Mo (by decide)) (fun post2 h2 => ?_))
  refine m_Mo_putAt (hL.nm c_Mo_putRow (by decide) (by decide)) (hL.k c_Mo (by decide)) (hL.r c_Mo f_Mo_putRow c_Mo_putRow (by decide)) (hL.k c_Mo_putRow (by decide)) (hL.l c_Mo_putRow (by decide)) g3 g1 ?_
  rw [← g_nth_eq (by omega) g4]
  exact h2 _ (hI.code hr)
