/-! THE PAIR TRIM -/
section PT
variable {A : List Fn}
theorem at_A {f : Nat} {F : Fn} (h : A[f]? = some F) (hn : A.length ≤ 24) : fAt A f = F ∧ parOf A (nI f) = fnP F ∧ f < A.length := by
  have hl := (List.getElem?_eq_some_iff.mp h).1
  refine ⟨fAt_e h, ?_, hl⟩
  unfold parOf
  rw [nI_clamp (by omega), h]
  rfl
theorem A_at {f : Nat} (h : f < A.length) : A[f]? = some (fAt A f) := by
  have e := List.getElem?_eq_getElem h
  rw [fAt_e e]
  exact e
theorem cd_ok.G {own : Nat} {F : Fn} (h : cd_ok A own F) : cdG A.length (fnC F) ∧ fnS F ≤ 200 ∧ fnT F ≤ 600 := by
  obtain ⟨-, -, h3, h4, -, -, H, -, -, hH⟩ := h
  refine ⟨fun q hq hk => ?_, h3, h4⟩
  obtain ⟨pc, hpc⟩ := List.getElem?_of_mem hq
  have := (hH pc q hpc).2.2
  have kne : ∀ a b : Nat, a < 100 → b < 100 → a ≠ b → q.1 = nI a → q.1 ≠ nI b := fun a b ha hb' hab e1 e2 => by
    rw [e1, nI_eq (by omega) (by omega)] at e2
    exact hab e2
  have key : ∀ a : Nat, a < 100 → (a = 16 ∨ a = 19) → q.1 = nI a → ∃ g, g < A.length ∧ q.2 = nI g := by
    intro a ha hA ea
    rcases this with h | h | h | h | h | h | h | h | h | h | h | h
    · exact absurd h.1 (kne a 1 ha (by omega) (by omega) ea)
    · exact absurd h.1 (kne a 2 ha (by omega) (by omega) ea)
    · obtain ⟨⟨j, j1, j2, j3⟩, _⟩ := h
      exact absurd j3 (kne a j ha (by omega) (by omega) ea)
    · rcases h.1 with h | h
      · exact absurd h (kne a 10 ha (by omega) (by omega) ea)
      · exact absurd h (kne a 11 ha (by omega) (by omega) ea)
    · exact absurd h.1 (kne a 12 ha (by omega) (by omega) ea)
    · exact absurd h.1 (kne a 13 ha (by omega) (by omega) ea)
    · exact absurd h.1 (kne a 14 ha (by omega) (by omega) ea)
    · exact absurd h.1 (kne a 15 ha (by omega) (by omega) ea)
    · obtain ⟨_, ⟨g, g1, g2, _⟩, _⟩ := h
      exact ⟨g, g2, g1⟩
    · exact absurd h.1 (kne a 17 ha (by omega) (by omega) ea)
    · exact absurd h.1 (kne a 18 ha (by omega) (by omega) ea)
    · obtain ⟨_, g, g1, g2, _⟩ := h
      exact ⟨g, g2, g1⟩
  rcases hk with hk | hk
  · exact key 16 (by omega) (by omega) hk
  · exact key 19 (by omega) (by omega) hk
theorem fn_ok.S {F : Fn} {f : Nat} (h : fn_ok A 400 46 F) (e : A[f]? = some F) (hn : A.length ≤ 24) : bodyS A.length (parOf A) (fnV (fAt A f)) (parOf A (nI f)) (fnB (fAt A f)) := by
  obtain ⟨e1, e2, _⟩ := at_A e hn
  rw [e1, e2]
  obtain ⟨a1, a2, a3, a4, a5, a6, a7, a8, a9⟩ := h
  exact ⟨a5, by omega, a2, a3, by omega, a7, a8, a9⟩
/-- the new output -/
def newF (A : List Fn) (r : Nat → IR) (b : Nat → Fo) (tl : Bool) (U : Nat → Int32) (f : Nat) : Fn := (fnN (fAt A f), fnP (fAt A f), (r f).2.1, b f, (r f).2.2, eTC tl f (fnP (fAt A f)) (b f), eTZ (fnP (fAt A f)) (b f), eTM tl (b f), U f)
def newB (A : List Fn) (r : Nat → IR) (b : Nat → Fo) (tl : Bool) (U : Nat → Int32) : List Fn := (List.range A.length).map (newF A r b tl U)
theorem newB_at {r : Nat → IR} {b : Nat → Fo} {tl : Bool} {U : Nat → Int32} {f : Nat} {F : Fn} (h : (newB A r b tl U)[f]? = some F) : f < A.length ∧ F = newF A r b tl U f := by
  unfold newB at h
  have hl := (List.getElem?_eq_some_iff.mp h).1
  rw [List.length_map, List.length_range] at hl
  rw [List.getElem?_map, List.getElem?_range hl] at h
  exact ⟨hl, (Option.some.inj h).symm⟩
theorem RX_make {ad : Nat → Nat} {u : gSt} {p p2 : Nat} {dir com : Nat → Nat → Bool} {ord : Nat → Nat} {r : Nat → IR} {b : Nat → Fo} {tl : Bool} {U : Nat → Int32} {bud : Int32} (hpp : (p = 112 ∧ p2 = 128) ∨ (p = 128 ∧ p2 = 112)) (h11 : u.2.2.2 (ad 0) 11 = some (ad p)) (h12 : u.2.2.2 (ad 0) 12 = some (ad p2)) (hn : A.length ≤ 24) (hR : RP (rI u ad) (rJ u ad) p A) (hO : oOut u ad A.length (parOf A) (fun f => pk8 (fnN (fAt A f))) r b tl U) (hJ : ∀ f F, A[f]? = some F → u.2.2.1 (ad 146) f = pk6 (fnN F)) (H : MKH u ad A.length (parOf A) (fun g => com g g) (fun f => fnB (fAt A f)) (fun f => fnV (fAt A f)) ord bud) (hm : ∀ f, f < A.length → mBd u ad (24 + f) (b f) (r f).2.1 ∧ u.2.1 (ad 150) f = nI (r f).2.2) (hc : ∀ f, f < A.length → codM u ad f false f (parOf A (nI f)) (fnB (fAt A f)) ∧ codM u ad (24 + f) tl f (parOf A (nI f)) (b f)) (hU : ∀ f, f < A.length → u.2.1 (ad 188) f = fnU (fAt A f) ∧ u.2.1 (ad 188) (24 + f) = U f) (hG : RG (rI u ad) A.length dir com ord) (ho : ord_ok A dir com ord) (hA : ∀ f F, A[f]? = some F → fn_ok A 400 46 F ∧ cd_ok A f F ∧ fnR F = 0 ∧ srcOk false f F ∧ bdOk A) (hb' : ∀ f, f < A.length → bodyS A.length (parOf A) (r f).2.1 (parOf A (nI f)) (b f)) : RX (rI u ad) (rJ u ad) (rR u ad) ad p p2 A (newB A r b tl U) dir com ord := by
  refine ⟨hpp, h11, h12, hn, by unfold newB; rw [List.length_map, List.length_range], hR, ⟨?_, fun f F hF => ?_⟩, ⟨H.c11, fun f F hF => ?_, fun f F hF => ?_⟩, hG, ho, H.c33, hA, fun f F hF => ?_⟩
  · unfold newB
    rw [List.length_map, List.length_range]
    exact hO.1
  · obtain ⟨hf, e⟩ := newB_at hF
    have eA := A_at hf
    obtain ⟨_, eP, _⟩ := at_A eA hn
    obtain ⟨⟨o1, o2, o3, o4, o5, o6, o7⟩, ⟨s, s1, s2, s3, s4, s5, s6⟩, o8⟩ := hO.2 f hf
    rw [eP] at o2 s2 s3 s4 s5
    rw [e]
    refine ⟨o1, o2, o3, o6, s5, s6, o8, ⟨500 * f, o4, ?_, o5, o7⟩, ⟨s, s1, s2, s3, s4⟩⟩
    have c108 : c_len (96 + 12) = 12000 := by decide
    have := (hb' f hf).2.1
    rw [c108]
    show 500 * f + fo_n (b f) ≤ 12000
    omega
  · obtain ⟨e1, eP, hf⟩ := at_A hF hn
    obtain ⟨a1, a2, a3, a4, a5⟩ := hA f F hF
    obtain ⟨s1, s2, s3⟩ := H.src f hf
    obtain ⟨⟨c1, c2, c3⟩, c4, c5⟩ := (hc f hf).1
    have hu := (hU f hf).1
    have h147 := H.c147 f hf
    rw [e1] at s1 s2 s3 c1 c2 c3 c4 c5 hu
    rw [eP] at c1 c2 c3 c4 h147
    obtain ⟨k1, k2, k3⟩ := a4
    refine ⟨hJ f F hF, h147, ⟨s1, s3⟩, s2, ?_, ?_, ?_, ?_, hu⟩
    · rw [k1]; exact c1
    · rw [k1]; exact c3
    · rw [k2]; exact c4
    · rw [k3]; exact c5
  · obtain ⟨hf, e⟩ := newB_at hF
    have eA := A_at hf
    obtain ⟨_, eP, _⟩ := at_A eA hn
    obtain ⟨⟨s1, s2, s3⟩, m2⟩ := hm f hf
    obtain ⟨⟨c1, c2, c3⟩, c4, c5⟩ := (hc f hf).2
    rw [eP] at c1 c2 c3 c4
    rw [e]
    exact ⟨m2, ⟨s1, s3⟩, s2, c1, c3, c4, c5, (hU f hf).2⟩
  · obtain ⟨hf, e⟩ := newB_at hF
    have eA := A_at hf
    obtain ⟨_, eP, _⟩ := at_A eA hn
    obtain ⟨a1, -⟩ := hA f _ eA
    have hb2 := hb' f hf
    rw [eP] at hb2
    obtain ⟨b1, b2, b3, b4, b5, b6, b7, b8⟩ := hb2
    rw [e]
    exact ⟨⟨a1.1, b3, b4, b5, b1, b2, b6, b7, b8⟩, eT_ok (M := 0) (tl := tl) (P := fnP (fAt A f)) (V := (r f).2.1) (F := b f) b3 b4 b5 b1 b2 b6 b7 b8 rfl rfl rfl rfl, fAt A f, eA, rfl, rfl⟩
theorem g_sim.frP {ad : Nat → Nat} {P : Nat → Nat → Bool} {t u : gSt} (hF : gFr ad P t u) (h : g_sim t ad) (h0 : ∀ c k, (c ≤ 2 ∨ c = 145 ∨ c = 192 ∨ c = 93 ∨ c = 94 ∨ c = 198 ∨ c = 83 ∨ c = 190 ∨ (90 ≤ c ∧ c ≤ 92)) → P c k = false) (h1 : ∀ k, (k = 2 ∨ k = 4 ∨ k = 46 ∨ k = 71 ∨ (82 ≤ k ∧ k ≤ 85)) → P 144 k = false) : g_sim u ad := by
  obtain ⟨⟨n, a1, a2, a3, a4⟩, b, c, e, ⟨f1, n2, g1, g2, g3, g4⟩, ⟨n3, w, w1, w2, w3, w4, w5, w6⟩⟩ := h
  have I : ∀ c k, c < 199 → (c ≤ 2 ∨ c = 145 ∨ c = 192 ∨ c = 93 ∨ c = 94 ∨ c = 198 ∨ c = 83 ∨ c = 190 ∨ (90 ≤ c ∧ c ≤ 92)) → u.2.1 (ad c) k = t.2.1 (ad c) k := fun c k hc h => hF.i c k (h0 c k h) hc
  have I1 : ∀ k, (k = 2 ∨ k = 4 ∨ k = 46 ∨ k = 71 ∨ (82 ≤ k ∧ k ≤ 85)) → u.2.1 (ad 144) k = t.2.1 (ad 144) k := fun k h => hF.i 144 k (h1 k h)
  have hw : w < 199 ∧ 90 ≤ w ∧ w ≤ 92 := by rcases w2 with rfl | rfl <;> decide
  refine ⟨⟨n, a1, ?_, ?_, fun j hj => ?_⟩, ?_, ?_, fun j hj => ?_, ⟨⟨?_, ?_, ?_⟩, n2, g1, ?_, ?_, fun j hj => ?_⟩, ⟨n3, w, w1, w2, ?_, ?_, ?_, fun j hj => ?_⟩⟩
  · rw [I 0 _ (by decide) (by decide)]; exact a2
  · rw [I1 _ (by decide)]; exact a3
  · rw [I 1 _ (by decide) (by decide), I 145 _ (by decide) (by decide)]; exact a4 j hj
  · rw [I 0 _ (by decide) (by decide), I1 _ (by decide)]; exact b
  · rw [I 0 _ (by decide) (by decide), I1 _ (by decide)]; exact c
  · rw [I 2 _ (by decide) (by decide), I 192 _ (by decide) (by decide)]; exact e j hj
  · rw [I 93 _ (by decide) (by decide), I1 _ (by decide)]; exact f1.1
  · rw [I 93 _ (by decide) (by decide), I1 _ (by decide)]; exact f1.2.1
  · rw [I 93 _ (by decide) (by decide), I1 _ (by decide)]; exact f1.2.2
  · rw [I 93 _ (by decide) (by decide)]; exact g2
  · rw [I1 _ (by decide)]; exact g3
  · rw [I 94 _ (by decide) (by decide), I 198 _ (by decide) (by decide)]; exact g4 j hj
  · rw [hF.r 83 1 (h0 83 1 (by decide))]; exact w3
  · rw [I 83 _ (by decide) (by decide)]; exact w4
  · rw [I1 _ (by decide)]; exact w5
  · rw [I w _ hw.1 (by omega), I 190 _ (by decide) (by decide)]; exact w6 j hj
end PT
