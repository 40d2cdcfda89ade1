/-! STRINGS THAT ARE ONLY READ: length, charAt -/
section ST
variable {cx : gCx} {d : Nat} {t : gSt} {post : Option Value → gSt → Prop} {a v n : Nat} {f : Nat → Int32} {g h0 : Nat → Int64} {e0 : Nat → Int32}
theorem m_coder (hs : cx.2.1 a (20, v, e0, h0)) (h : post (some (.int 0)) t) : g_E cx (d + 1) i_Str_coder_7d493 [.ref a] t post := by
  refine g_call mt_Str_coder_7d493 rfl (by decide) (Nat.le_of_ble_eq_true rfl) ?_
  refine g_run [] 20 (fun P hP => ?_)
  refine And.intro (fun c => absurd (show (1 : Int32) = 0 from c) (by decide)) (fun c => ?_)
  refine ⟨_, hs, rfl, ?_⟩
  exact And.intro rfl (And.intro rfl h)
theorem m_isLatin1 (hs : cx.2.1 a (20, v, e0, h0)) (h : post (some (.int 1)) t) : g_E cx (d + 1) i_Str_isLatin1_aae02 [.ref a] t post := by
  refine g_call mt_Str_isLatin1_aae02 rfl (by decide) (Nat.le_of_ble_eq_true rfl) ?_
  refine g_run [] 20 (fun P hP => ?_)
  refine And.intro (fun c => absurd (show (1 : Int32) = 0 from c) (by decide)) (fun c => ?_)
  refine ⟨_, hs, rfl, ?_⟩
  refine And.intro (fun c => absurd rfl c) (fun c => ?_)
  exact And.intro rfl (And.intro rfl h)
theorem m_Str_length (hs : cx.2.1 a (20, v, e0, h0)) (hv : cx.2.1 v (13, n, f, g)) (h : post (some (.int (nI n))) t) : g_E cx (d + 2) i_Str_length_8abf5 [.ref a] t post := by
  refine g_call mt_Str_length_8abf5 rfl (by decide) (Nat.le_of_ble_eq_true rfl) ?_
  refine g_run [] 20 (fun P hP => ?_)
  refine ⟨_, hs, rfl, ?_⟩
  refine Or.inr ⟨_, hv, Or.inl rfl, ?_⟩
  refine And.intro ⟨_, hs, rfl⟩ ?_
  refine m_coder hs ?_
  have e : nI n >>> (0 &&& 31) = nI n := by
    rw [show (0 : Int32) &&& 31 = 0 from by decide]
    exact Int32.shiftRight_zero
  rw [← e] at h
  exact And.intro rfl (And.intro rfl h)
theorem m_checkIndex3 {i m : Int32} {z : Value} (hz : ¬ z.category = 2) (h1 : ¬ i < 0) (h2 : i < m) (h : post (some (.int i)) t) : g_E cx (d + 1) i_Pre_checkIndex_8e157 [.int i, .int m, z] t post := by
  have e : g_en [.int i, .int m, z] = [some (.int i), some (.int m), some z] := by
    show some (Value.int i) :: some (Value.int m) :: (if z.category = 2 then some z :: none :: g_en [] else some z :: g_en []) = _
    rw [if_neg hz]
    rfl
  refine g_call mt_Pre_checkIndex_8e157 rfl (by decide) (by rw [e]; exact Nat.le_refl 3) ?_
  rw [show g_l0 [.int i, .int m, z] mt_Pre_checkIndex_8e157.2.1 = [some (.int i), some (.int m), some z] from by
    unfold g_l0
    rw [e]
    rfl]
  refine g_run [] 20 (fun P hP => ?_)
  refine And.intro (fun c => absurd c h1) (fun c => ?_)
  refine And.intro (fun c => ?_) (fun c => absurd h2 c)
  exact And.intro rfl (And.intro rfl h)
theorem m_checkIndex {i m : Int32} (hz : ¬ cx.2.2.2.category = 2) (h1 : ¬ i < 0) (h2 : i < m) (h : post none t) : g_E cx (d + 2) i_Str_checkIndex_df160 [.int i, .int m] t post := by
  refine g_call mt_Str_checkIndex_df160 rfl (by decide) (Nat.le_of_ble_eq_true rfl) ?_
  refine g_run [] 20 (fun P hP => ?_)
  refine m_checkIndex3 hz h1 h2 ?_
  exact And.intro rfl (And.intro rfl h)
theorem m_Lat_charAt {i : Nat} (hz : ¬ cx.2.2.2.category = 2) (hi : i < n) (hn : n < 2 ^ 31) (hv : cx.2.1 v (13, n, f, g)) (hb : ((f i &&& 255).toUInt32 % 65536).toInt32 = f i) (hb2 : narrow .char (.int (f i)) = .int (f i)) (h : post (some (.int (f i))) t) : g_E cx (d + 3) i_Lat_charAt_3b067 [.ref v, .int (nI i)] t post := by
  refine g_call mt_Lat_charAt_3b067 rfl (by decide) (Nat.le_of_ble_eq_true rfl) ?_
  refine g_run [] 20 (fun P hP => ?_)
  refine Or.inr ⟨_, hv, Or.inl rfl, ?_⟩
  refine m_checkIndex hz (nI_pos (by omega)) (nI_lt hi hn) ?_
  refine Or.inr ⟨_, hv, rfl, vp_in_nI hi hn, ?_⟩
  rw [nI_clamp (by omega)]
  refine And.intro rfl ?_
  show narrow .char (.int (((f i &&& 255).toUInt32 % 65536).toInt32)) = .int (((f i &&& 255).toUInt32 % 65536).toInt32) ∧ post (some (.int (((f i &&& 255).toUInt32 % 65536).toInt32))) t
  rw [hb]
  exact ⟨hb2, h⟩
theorem m_Str_charAt {i : Nat} (hz : ¬ cx.2.2.2.category = 2) (hi : i < n) (hn : n < 2 ^ 31) (hs : cx.2.1 a (20, v, e0, h0)) (hv : cx.2.1 v (13, n, f, g)) (hb : ((f i &&& 255).toUInt32 % 65536).toInt32 = f i) (hb2 : narrow .char (.int (f i)) = .int (f i)) (h : post (some (.int (f i))) t) : g_E cx (d + 4) i_Str_charAt_5068e [.ref a, .int (nI i)] t post := by
  refine g_call mt_Str_charAt_5068e rfl (by decide) (Nat.le_of_ble_eq_true rfl) ?_
  refine g_run [] 20 (fun P hP => ?_)
  refine And.intro ⟨_, hs, rfl⟩ ?_
  refine m_isLatin1 hs ?_
  refine And.intro (fun c => absurd (show (1 : Int32) = 0 from c) (by decide)) (fun c => ?_)
  refine ⟨_, hs, rfl, ?_⟩
  refine m_Lat_charAt hz hi hn hv hb hb2 ?_
  exact And.intro rfl (And.intro hb2 h)
end ST
/-- what is only read, as the passes use it -/
def g_CS (cx : gCx) : Prop := ¬ cx.2.2.2.category = 2 ∧ cx.2.1 cx.1 (16, 7, fun _ => 0, fun j => g_wds.getD j 0) ∧ ∀ i, i < 16 → ∃ v, cx.2.1 (cx.2.2.1 i) (20, v, fun _ => 0, fun _ => 0) ∧ cx.2.1 v (13, g_stl.getD i 0, fun j => (g_stb.getD i []).getD j 0, fun _ => 0)
theorem g_stb_ok : (List.range 16).all (fun i => decide (g_stl.getD i 0 < 100) && (List.range (g_stl.getD i 0)).all (fun j => decide (((((g_stb.getD i []).getD j 0) &&& 255).toUInt32 % 65536).toInt32 = (g_stb.getD i []).getD j 0) && decide (narrow .char (.int ((g_stb.getD i []).getD j 0)) = .int ((g_stb.getD i []).getD j 0)))) = true := by decide +kernel
theorem c_length {cx : gCx} {d i : Nat} {t : gSt} {post : Option Value → gSt → Prop} (hc : g_CS cx) (hi : i < 16) (h : post (some (.int (nI (g_stl.getD i 0)))) t) : g_E cx (d + 2) i_Str_length_8abf5 [.ref (cx.2.2.1 i)] t post := by
  obtain ⟨v, h1, h2⟩ := hc.2.2 i hi
  exact m_Str_length h1 h2 h
theorem c_charAt {cx : gCx} {d i j : Nat} {t : gSt} {post : Option Value → gSt → Prop} (hc : g_CS cx) (hi : i < 16) (hj : j < g_stl.getD i 0) (h : post (some (.int ((g_stb.getD i []).getD j 0))) t) : g_E cx (d + 4) i_Str_charAt_5068e [.ref (cx.2.2.1 i), .int (nI j)] t post := by
  obtain ⟨v, h1, h2⟩ := hc.2.2 i hi
  have hk := List.all_eq_true.mp g_stb_ok i (List.mem_range.mpr hi)
  rw [Bool.and_eq_true] at hk
  have hk2 := List.all_eq_true.mp hk.2 j (List.mem_range.mpr hj)
  rw [Bool.and_eq_true] at hk2
  have := of_decide_eq_true hk.1
  exact m_Str_charAt hc.1 hj (by omega) h1 h2 (of_decide_eq_true hk2.1) (of_decide_eq_true hk2.2) h
theorem c_isStr {cx : gCx} {i : Nat} (hc : g_CS cx) (hi : i < 16) : ∃ z, cx.2.1 (cx.2.2.1 i) z ∧ z.1 = 20 := by
  obtain ⟨v, h1, h2⟩ := hc.2.2 i hi
  exact ⟨_, h1, rfl⟩
