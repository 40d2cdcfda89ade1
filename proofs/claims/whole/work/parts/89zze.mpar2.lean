/-! THE MODEL READS AN EXPRESSION: what each thing it does makes of its rows -/
section RTK
variable {cx : gCx} {d : Nat} {ad : Nat → Nat} {t : gSt} {post : Option Value → gSt → Prop}
theorem rt_1 {a2 a3 : Int32} (hL : Lay t ad) (h : g_W cx (g_E cx d) mt_Mo_readTask post (100, [some (.ref (ad 144)), some (.int 1), some (.int a2), some (.int a3), none, none], [], t, 0, 0)) : g_E cx (d + 1) i_Mo_readTask [.ref (ad 144), .int 1, .int a2, .int a3] t post :=
  x_Mo_readTask hL ⟨fun _ => h, fun c => absurd c (by decide), fun c => absurd c (by decide), fun c => absurd c (by decide), fun c => absurd c (by decide), fun c => absurd c (by decide), fun c => absurd c (by decide), fun c => absurd c (by decide), fun c => absurd c (by decide), fun c => absurd c (by decide), fun c => absurd c (by decide), fun c => absurd c (by decide), fun c => absurd c (by decide), fun c => absurd c (by decide), fun c => absurd c (by decide), fun c => absurd c (by decide), fun c => absurd c (by decide), fun c => absurd c (by decide), fun c => absurd c (by decide), fun c => absurd c (by decide), fun c => absurd c (by decide), fun c => absurd c (by decide)⟩
theorem rt_2 {a2 a3 : Int32} (hL : Lay t ad) (h : g_W cx (g_E cx d) mt_Mo_readTask post (107, [some (.ref (ad 144)), some (.int 2), some (.int a2), some (.int a3), none, none], [], t, 0, 0)) : g_E cx (d + 1) i_Mo_readTask [.ref (ad 144), .int 2, .int a2, .int a3] t post :=
  x_Mo_readTask hL ⟨fun c => absurd c (by decide), fun _ => h, fun c => absurd c (by decide), fun c => absurd c (by decide), fun c => absurd c (by decide), fun c => absurd c (by decide), fun c => absurd c (by decide), fun c => absurd c (by decide), fun c => absurd c (by decide), fun c => absurd c (by decide), fun c => absurd c (by decide), fun c => absurd c (by decide), fun c => absurd c (by decide), fun c => absurd c (by decide), fun c => absurd c (by decide), fun c => absurd c (by decide), fun c => absurd c (by decide), fun c => absurd c (by decide), fun c => absurd c (by decide), fun c => absurd c (by decide), fun c => absurd c (by decide), fun c => absurd c (by decide)⟩
theorem rt_3 {a2 a3 : Int32} (hL : Lay t ad) (h : g_W cx (g_E cx d) mt_Mo_readTask post (167, [some (.ref (ad 144)), some (.int 3), some (.int a2), some (.int a3), none, none], [], t, 0, 0)) : g_E cx (d + 1) i_Mo_readTask [.ref (ad 144), .int 3, .int a2, .int a3] t post :=
  x_Mo_readTask hL ⟨fun c => absurd c (by decide), fun c => absurd c (by decide), fun _ => h, fun c => absurd c (by decide), fun c => absurd c (by decide), fun c => absurd c (by decide), fun c => absurd c (by decide), fun c => absurd c (by decide), fun c => absurd c (by decide), fun c => absurd c (by decide), fun c => absurd c (by decide), fun c => absurd c (by decide), fun c => absurd c (by decide), fun c => absurd c (by decide), fun c => absurd c (by decide), fun c => absurd c (by decide), fun c => absurd c (by decide), fun c => absurd c (by decide), fun c => absurd c (by decide), fun c => absurd c (by decide), fun c => absurd c (by decide), fun c => absurd c (by decide)⟩
theorem rt_4 {a2 a3 : Int32} (hL : Lay t ad) (h : g_W cx (g_E cx d) mt_Mo_readTask post (217, [some (.ref (ad 144)), some (.int 4), some (.int a2), some (.int a3), none, none], [], t, 0, 0)) : g_E cx (d + 1) i_Mo_readTask [.ref (ad 144), .int 4, .int a2, .int a3] t post :=
  x_Mo_readTask hL ⟨fun c => absurd c (by decide), fun c => absurd c (by decide), fun c => absurd c (by decide), fun _ => h, fun c => absurd c (by decide), fun c => absurd c (by decide), fun c => absurd c (by decide), fun c => absurd c (by decide), fun c => absurd c (by decide), fun c => absurd c (by decide), fun c => absurd c (by decide), fun c => absurd c (by decide), fun c => absurd c (by decide), fun c => absurd c (by decide), fun c => absurd c (by decide), fun c => absurd c (by decide), fun c => absurd c (by decide), fun c => absurd c (by decide), fun c => absurd c (by decide), fun c => absurd c (by decide), fun c => absurd c (by decide), fun c => absurd c (by decide)⟩
theorem rt_5 {a2 a3 : Int32} (hL : Lay t ad) (h : g_W cx (g_E cx d) mt_Mo_readTask post (243, [some (.ref (ad 144)), some (.int 5), some (.int a2), some (.int a3), none, none], [], t, 0, 0)) : g_E cx (d + 1) i_Mo_readTask [.ref (ad 144), .int 5, .int a2, .int a3] t post :=
  x_Mo_readTask hL ⟨fun c => absurd c (by decide), fun c => absurd c (by decide), fun c => absurd c (by decide), fun c => absurd c (by decide), fun _ => h, fun c => absurd c (by decide), fun c => absurd c (by decide), fun c => absurd c (by decide), fun c => absurd c (by decide), fun c => absurd c (by decide), fun c => absurd c (by decide), fun c => absurd c (by decide), fun c => absurd c (by decide), fun c => absurd c (by decide), fun c => absurd c (by decide), fun c => absurd c (by decide), fun c => absurd c (by decide), fun c => absurd c (by decide), fun c => absurd c (by decide), fun c => absurd c (by decide), fun c => absurd c (by decide), fun c => absurd c (by decide)⟩
theorem rt_6 {a2 a3 : Int32} (hL : Lay t ad) (h : g_W cx (g_E cx d) mt_Mo_readTask post (270, [some (.ref (ad 144)), some (.int 6), some (.int a2), some (.int a3), none, none], [], t, 0, 0)) : g_E cx (d + 1) i_Mo_readTask [.ref (ad 144), .int 6, .int a2, .int a3] t post :=
  x_Mo_readTask hL ⟨fun c => absurd c (by decide), fun c => absurd c (by decide), fun c => absurd c (by decide), fun c => absurd c (by decide), fun c => absurd c (by decide), fun _ => h, fun c => absurd c (by decide), fun c => absurd c (by decide), fun c => absurd c (by decide), fun c => absurd c (by decide), fun c => absurd c (by decide), fun c => absurd c (by decide), fun c => absurd c (by decide), fun c => absurd c (by decide), fun c => absurd c (by decide), fun c => absurd c (by decide), fun c => absurd c (by decide), fun c => absurd c (by decide), fun c => absurd c (by decide), fun c => absurd c (by decide), fun c => absurd c (by decide), fun c => absurd c (by decide)⟩
theorem rt_7 {a2 a3 : Int32} (hL : Lay t ad) (h : g_W cx (g_E cx d) mt_Mo_readTask post (317, [some (.ref (ad 144)), some (.int 7), some (.int a2), some (.int a3), none, none], [], t, 0, 0)) : g_E cx (d + 1) i_Mo_readTask [.ref (ad 144), .int 7, .int a2, .int a3] t post :=
  x_Mo_readTask hL ⟨fun c => absurd c (by decide), fun c => absurd c (by decide), fun c => absurd c (by decide), fun c => absurd c (by decide), fun c => absurd c (by decide), fun c => absurd c (by decide), fun _ => h, fun c => absurd c (by decide), fun c => absurd c (by decide), fun c => absurd c (by decide), fun c => absurd c (by decide), fun c => absurd c (by decide), fun c => absurd c (by decide), fun c => absurd c (by decide), fun c => absurd c (by decide), fun c => absurd c (by decide), fun c => absurd c (by decide), fun c => absurd c (by decide), fun c => absurd c (by decide), fun c => absurd c (by decide), fun c => absurd c (by decide), fun c => absurd c (by decide)⟩
theorem rt_8 {a2 a3 : Int32} (hL : Lay t ad) (h : g_W cx (g_E cx d) mt_Mo_readTask post (348, [some (.ref (ad 144)), some (.int 8), some (.int a2), some (.int a3), none, none], [], t, 0, 0)) : g_E cx (d + 1) i_Mo_readTask [.ref (ad 144), .int 8, .int a2, .int a3] t post :=
  x_Mo_readTask hL ⟨fun c => absurd c (by decide), fun c => absurd c (by decide), fun c => absurd c (by decide), fun c => absurd c (by decide), fun c => absurd c (by decide), fun c => absurd c (by decide), fun c => absurd c (by decide), fun _ => h, fun c => absurd c (by decide), fun c => absurd c (by decide), fun c => absurd c (by decide), fun c => absurd c (by decide), fun c => absurd c (by decide), fun c => absurd c (by decide), fun c => absurd c (by decide), fun c => absurd c (by decide), fun c => absurd c (by decide), fun c => absurd c (by decide), fun c => absurd c (by decide), fun c => absurd c (by decide), fun c => absurd c (by decide), fun c => absurd c (by decide)⟩
theorem rt_9 {a2 a3 : Int32} (hL : Lay t ad) (h : g_W cx (g_E cx d) mt_Mo_readTask post (357, [some (.ref (ad 144)), some (.int 9), some (.int a2), some (.int a3), none, none], [], t, 0, 0)) : g_E cx (d + 1) i_Mo_readTask [.ref (ad 144), .int 9, .int a2, .int a3] t post :=
  x_Mo_readTask hL ⟨fun c => absurd c (by decide), fun c => absurd c (by decide), fun c => absurd c (by decide), fun c => absurd c (by decide), fun c => absurd c (by decide), fun c => absurd c (by decide), fun c => absurd c (by decide), fun c => absurd c (by decide), fun _ => h, fun c => absurd c (by decide), fun c => absurd c (by decide), fun c => absurd c (by decide), fun c => absurd c (by decide), fun c => absurd c (by decide), fun c => absurd c (by decide), fun c => absurd c (by decide), fun c => absurd c (by decide), fun c => absurd c (by decide), fun c => absurd c (by decide), fun c => absurd c (by decide), fun c => absurd c (by decide), fun c => absurd c (by decide)⟩
theorem rt_10 {a2 a3 : Int32} (hL : Lay t ad) (h : g_W cx (g_E cx d) mt_Mo_readTask post (376, [some (.ref (ad 144)), some (.int 10), some (.int a2), some (.int a3), none, none], [], t, 0, 0)) : g_E cx (d + 1) i_Mo_readTask [.ref (ad 144), .int 10, .int a2, .int a3] t post :=
  x_Mo_readTask hL ⟨fun c => absurd c (by decide), fun c => absurd c (by decide), fun c => absurd c (by decide), fun c => absurd c (by decide), fun c => absurd c (by decide), fun c => absurd c (by decide), fun c => absurd c (by decide), fun c => absurd c (by decide), fun c => absurd c (by decide), fun _ => h, fun c => absurd c (by decide), fun c => absurd c (by decide), fun c => absurd c (by decide), fun c => absurd c (by decide), fun c => absurd c (by decide), fun c => absurd c (by decide), fun c => absurd c (by decide), fun c => absurd c (by decide), fun c => absurd c (by decide), fun c => absurd c (by decide), fun c => absurd c (by decide), fun c => absurd c (by decide)⟩
theorem rt_11 {a2 a3 : Int32} (hL : Lay t ad) (h : g_W cx (g_E cx d) mt_Mo_readTask post (432, [some (.ref (ad 144)), some (.int 11), some (.int a2), some (.int a3), none, none], [], t, 0, 0)) : g_E cx (d + 1) i_Mo_readTask [.ref (ad 144), .int 11, .int a2, .int a3] t post :=
  x_Mo_readTask hL ⟨fun c => absurd c (by decide), fun c => absurd c (by decide), fun c => absurd c (by decide), fun c => absurd c (by decide), fun c => absurd c (by decide), fun c => absurd c (by decide), fun c => absurd c (by decide), fun c => absurd c (by decide), fun c => absurd c (by decide), fun c => absurd c (by decide), fun _ => h, fun c => absurd c (by decide), fun c => absurd c (by decide), fun c => absurd c (by decide), fun c => absurd c (by decide), fun c => absurd c (by decide), fun c => absurd c (by decide), fun c => absurd c (by decide), fun c => absurd c (by decide), fun c => absurd c (by decide), fun c => absurd c (by decide), fun c => absurd c (by decide)⟩
theorem rt_12 {a2 a3 : Int32} (hL : Lay t ad) (h : g_W cx (g_E cx d) mt_Mo_readTask post (440, [some (.ref (ad 144)), some (.int 12), some (.int a2), some (.int a3), none, none], [], t, 0, 0)) : g_E cx (d + 1) i_Mo_readTask [.ref (ad 144), .int 12, .int a2, .int a3] t post :=
  x_Mo_readTask hL ⟨fun c => absurd c (by decide), fun c => absurd c (by decide), fun c => absurd c (by decide), fun c => absurd c (by decide), fun c => absurd c (by decide), fun c => absurd c (by decide), fun c => absurd c (by decide), fun c => absurd c (by decide), fun c => absurd c (by decide), fun c => absurd c (by decide), fun c => absurd c (by decide), fun _ => h, fun c => absurd c (by decide), fun c => absurd c (by decide), fun c => absurd c (by decide), fun c => absurd c (by decide), fun c => absurd c (by decide), fun c => absurd c (by decide), fun c => absurd c (by decide), fun c => absurd c (by decide), fun c => absurd c (by decide), fun c => absurd c (by decide)⟩
theorem rt_13 {a2 a3 : Int32} (hL : Lay t ad) (h : g_W cx (g_E cx d) mt_Mo_readTask post (459, [some (.ref (ad 144)), some (.int 13), some (.int a2), some (.int a3), none, none], [], t, 0, 0)) : g_E cx (d + 1) i_Mo_readTask [.ref (ad 144), .int 13, .int a2, .int a3] t post :=
  x_Mo_readTask hL ⟨fun c => absurd c (by decide), fun c => absurd c (by decide), fun c => absurd c (by decide), fun c => absurd c (by decide), fun c => absurd c (by decide), fun c => absurd c (by decide), fun c => absurd c (by decide), fun c => absurd c (by decide), fun c => absurd c (by decide), fun c => absurd c (by decide), fun c => absurd c (by decide), fun c => absurd c (by decide), fun _ => h, fun c => absurd c (by decide), fun c => absurd c (by decide), fun c => absurd c (by decide), fun c => absurd c (by decide), fun c => absurd c (by decide), fun c => absurd c (by decide), fun c => absurd c (by decide), fun c => absurd c (by decide), fun c => absurd c (by decide)⟩
theorem rt_14 {a2 a3 : Int32} (hL : Lay t ad) (h : g_W cx (g_E cx d) mt_Mo_readTask post (513, [some (.ref (ad 144)), some (.int 14), some (.int a2), some (.int a3), none, none], [], t, 0, 0)) : g_E cx (d + 1) i_Mo_readTask [.ref (ad 144), .int 14, .int a2, .int a3] t post :=
  x_Mo_readTask hL ⟨fun c => absurd c (by decide), fun c => absurd c (by decide), fun c => absurd c (by decide), fun c => absurd c (by decide), fun c => absurd c (by decide), fun c => absurd c (by decide), fun c => absurd c (by decide), fun c => absurd c (by decide), fun c => absurd c (by decide), fun c => absurd c (by decide), fun c => absurd c (by decide), fun c => absurd c (by decide), fun c => absurd c (by decide), fun _ => h, fun c => absurd c (by decide), fun c => absurd c (by decide), fun c => absurd c (by decide), fun c => absurd c (by decide), fun c => absurd c (by decide), fun c => absurd c (by decide), fun c => absurd c (by decide), fun c => absurd c (by decide)⟩
theorem rt_15 {a2 a3 : Int32} (hL : Lay t ad) (h : g_W cx (g_E cx d) mt_Mo_readTask post (529, [some (.ref (ad 144)), some (.int 15), some (.int a2), some (.int a3), none, none], [], t, 0, 0)) : g_E cx (d + 1) i_Mo_readTask [.ref (ad 144), .int 15, .int a2, .int a3] t post :=
  x_Mo_readTask hL ⟨fun c => absurd c (by decide), fun c => absurd c (by decide), fun c => absurd c (by decide), fun c => absurd c (by decide), fun c => absurd c (by decide), fun c => absurd c (by decide), fun c => absurd c (by decide), fun c => absurd c (by decide), fun c => absurd c (by decide), fun c => absurd c (by decide), fun c => absurd c (by decide), fun c => absurd c (by decide), fun c => absurd c (by decide), fun c => absurd c (by decide), fun _ => h, fun c => absurd c (by decide), fun c => absurd c (by decide), fun c => absurd c (by decide), fun c => absurd c (by decide), fun c => absurd c (by decide), fun c => absurd c (by decide), fun c => absurd c (by decide)⟩
theorem rt_16 {a2 a3 : Int32} (hL : Lay t ad) (h : g_W cx (g_E cx d) mt_Mo_readTask post (548, [some (.ref (ad 144)), some (.int 16), some (.int a2), some (.int a3), none, none], [], t, 0, 0)) : g_E cx (d + 1) i_Mo_readTask [.ref (ad 144), .int 16, .int a2, .int a3] t post :=
  x_Mo_readTask hL ⟨fun c => absurd c (by decide), fun c => absurd c (by decide), fun c => absurd c (by decide), fun c => absurd c (by decide), fun c => absurd c (by decide), fun c => absurd c (by decide), fun c => absurd c (by decide), fun c => absurd c (by decide), fun c => absurd c (by decide), fun c => absurd c (by decide), fun c => absurd c (by decide), fun c => absurd c (by decide), fun c => absurd c (by decide), fun c => absurd c (by decide), fun c => absurd c (by decide), fun _ => h, fun c => absurd c (by decide), fun c => absurd c (by decide), fun c => absurd c (by decide), fun c => absurd c (by decide), fun c => absurd c (by decide), fun c => absurd c (by decide)⟩
theorem rt_17 {a2 a3 : Int32} (hL : Lay t ad) (h : g_W cx (g_E cx d) mt_Mo_readTask post (626, [some (.ref (ad 144)), some (.int 17), some (.int a2), some (.int a3), none, none], [], t, 0, 0)) : g_E cx (d + 1) i_Mo_readTask [.ref (ad 144), .int 17, .int a2, .int a3] t post :=
  x_Mo_readTask hL ⟨fun c => absurd c (by decide), fun c => absurd c (by decide), fun c => absurd c (by decide), fun c => absurd c (by decide), fun c => absurd c (by decide), fun c => absurd c (by decide), fun c => absurd c (by decide), fun c => absurd c (by decide), fun c => absurd c (by decide), fun c => absurd c (by decide), fun c => absurd c (by decide), fun c => absurd c (by decide), fun c => absurd c (by decide), fun c => absurd c (by decide), fun c => absurd c (by decide), fun c => absurd c (by decide), fun _ => h, fun c => absurd c (by decide), fun c => absurd c (by decide), fun c => absurd c (by decide), fun c => absurd c (by decide), fun c => absurd c (by decide)⟩
theorem rt_18 {a2 a3 : Int32} (hL : Lay t ad) (h : g_W cx (g_E cx d) mt_Mo_readTask post (642, [some (.ref (ad 144)), some (.int 18), some (.int a2), some (.int a3), none, none], [], t, 0, 0)) : g_E cx (d + 1) i_Mo_readTask [.ref (ad 144), .int 18, .int a2, .int a3] t post :=
  x_Mo_readTask hL ⟨fun c => absurd c (by decide), fun c => absurd c (by decide), fun c => absurd c (by decide), fun c => absurd c (by decide), fun c => absurd c (by decide), fun c => absurd c (by decide), fun c => absurd c (by decide), fun c => absurd c (by decide), fun c => absurd c (by decide), fun c => absurd c (by decide), fun c => absurd c (by decide), fun c => absurd c (by decide), fun c => absurd c (by decide), fun c => absurd c (by decide), fun c => absurd c (by decide), fun c => absurd c (by decide), fun c => absurd c (by decide), fun _ => h, fun c => absurd c (by decide), fun c => absurd c (by decide), fun c => absurd c (by decide), fun c => absurd c (by decide)⟩
theorem rt_19 {a2 a3 : Int32} (hL : Lay t ad) (h : g_W cx (g_E cx d) mt_Mo_readTask post (649, [some (.ref (ad 144)), some (.int 19), some (.int a2), some (.int a3), none, none], [], t, 0, 0)) : g_E cx (d + 1) i_Mo_readTask [.ref (ad 144), .int 19, .int a2, .int a3] t post :=
  x_Mo_readTask hL ⟨fun c => absurd c (by decide), fun c => absurd c (by decide), fun c => absurd c (by decide), fun c => absurd c (by decide), fun c => absurd c (by decide), fun c => absurd c (by decide), fun c => absurd c (by decide), fun c => absurd c (by decide), fun c => absurd c (by decide), fun c => absurd c (by decide), fun c => absurd c (by decide), fun c => absurd c (by decide), fun c => absurd c (by decide), fun c => absurd c (by decide), fun c => absurd c (by decide), fun c => absurd c (by decide), fun c => absurd c (by decide), fun c => absurd c (by decide), fun _ => h, fun c => absurd c (by decide), fun c => absurd c (by decide), fun c => absurd c (by decide)⟩
theorem rt_20 {a2 a3 : Int32} (hL : Lay t ad) (h : g_W cx (g_E cx d) mt_Mo_readTask post (682, [some (.ref (ad 144)), some (.int 20), some (.int a2), some (.int a3), none, none], [], t, 0, 0)) : g_E cx (d + 1) i_Mo_readTask [.ref (ad 144), .int 20, .int a2, .int a3] t post :=
  x_Mo_readTask hL ⟨fun c => absurd c (by decide), fun c => absurd c (by decide), fun c => absurd c (by decide), fun c => absurd c (by decide), fun c => absurd c (by decide), fun c => absurd c (by decide), fun c => absurd c (by decide), fun c => absurd c (by decide), fun c => absurd c (by decide), fun c => absurd c (by decide), fun c => absurd c (by decide), fun c => absurd c (by decide), fun c => absurd c (by decide), fun c => absurd c (by decide), fun c => absurd c (by decide), fun c => absurd c (by decide), fun c => absurd c (by decide), fun c => absurd c (by decide), fun c => absurd c (by decide), fun _ => h, fun c => absurd c (by decide), fun c => absurd c (by decide)⟩
theorem rt_21 {a2 a3 : Int32} (hL : Lay t ad) (h : g_W cx (g_E cx d) mt_Mo_readTask post (723, [some (.ref (ad 144)), some (.int 21), some (.int a2), some (.int a3), none, none], [], t, 0, 0)) : g_E cx (d + 1) i_Mo_readTask [.ref (ad 144), .int 21, .int a2, .int a3] t post :=
  x_Mo_readTask hL ⟨fun c => absurd c (by decide), fun c => absurd c (by decide), fun c => absurd c (by decide), fun c => absurd c (by decide), fun c => absurd c (by decide), fun c => absurd c (by decide), fun c => absurd c (by decide), fun c => absurd c (by decide), fun c => absurd c (by decide), fun c => absurd c (by decide), fun c => absurd c (by decide), fun c => absurd c (by decide), fun c => absurd c (by decide), fun c => absurd c (by decide), fun c => absurd c (by decide), fun c => absurd c (by decide), fun c => absurd c (by decide), fun c => absurd c (by decide), fun c => absurd c (by decide), fun c => absurd c (by decide), fun _ => h, fun c => absurd c (by decide)⟩
theorem rt_22 {a2 a3 : Int32} (hL : Lay t ad) (h : g_W cx (g_E cx d) mt_Mo_readTask post (744, [some (.ref (ad 144)), some (.int 22), some (.int a2), some (.int a3), none, none], [], t, 0, 0)) : g_E cx (d + 1) i_Mo_readTask [.ref (ad 144), .int 22, .int a2, .int a3] t post :=
  x_Mo_readTask hL ⟨fun c => absurd c (by decide), fun c => absurd c (by decide), fun c => absurd c (by decide), fun c => absurd c (by decide), fun c => absurd c (by decide), fun c => absurd c (by decide), fun c => absurd c (by decide), fun c => absurd c (by decide), fun c => absurd c (by decide), fun c => absurd c (by decide), fun c => absurd c (by decide), fun c => absurd c (by decide), fun c => absurd c (by decide), fun c => absurd c (by decide), fun c => absurd c (by decide), fun c => absurd c (by decide), fun c => absurd c (by decide), fun c => absurd c (by decide), fun c => absurd c (by decide), fun c => absurd c (by decide), fun c => absurd c (by decide), fun _ => h⟩
end RTK
def fcd (T : Nat → Nat) (n a : Nat) : Nat := if tkK T n a = 23 then 1 else 2
/-- a fault of the model's -/
def DD (ad : Nat → Nat) (x : Nat) (t0 : gSt) (c p : Nat) (u : gSt) : Prop := gFr ad (mxP x) t0 u ∧ ddM ad c p u
/-- the state, a token being held -/
def MPh (ad : Nat → Nat) (T : Nat → Nat) (n x Pm c0 : Nat) (t0 : gSt) (a l o : Nat) (sc : SC) (cl : CL) (ac : Nat → Nat) (V : Fo) (K : AT) (t : gSt) : Prop := MP ad T n x Pm c0 t0 a l o sc cl ac V K t ∧ hcM ad T n a t
section MO
variable {cx : gCx} {d : Nat} {ad : Nat → Nat} {T : Nat → Nat} {n x Pm c0 a l o : Nat} {t0 t u : gSt} {sc : SC} {cl : CL} {ac : Nat → Nat} {V : Fo} {K : AT} {post : Option Value → gSt → Prop}
theorem mr_tm {c k : Nat} (h : tmP c k = true) : mxP x c k = true := by
  rw [tmP_i] at h
  rw [mxP_i]
  omega
theorem mr_tk {c k : Nat} (h : tkP c k = true) : mxP x c k = true := by
  rw [tkP_i] at h
  rw [mxP_i]
  omega
theorem mr_mn {c k : Nat} (h : mvvP x c k = true) : mxP x c k = true := by
  rw [mvvP_i] at h
  rw [mxP_i]
  omega
theorem MP.tm {a' : Nat} (h : MP ad T n x Pm c0 t0 a l o sc cl ac V K t) (hF : gFr ad tmP t u) (hC : cuM ad T n a' u) : MP ad T n x Pm c0 t0 a' l o sc cl ac V K u := by
  obtain ⟨h1, h2, h3, h4, h5, h6, h7⟩ := h
  exact ⟨h1.tr (hF.mo (fun c k z => mr_tm z)), h2, fun i hi => by rw [hF.i 166 i (bool_r tmP_i (by omega))]; exact h3 i hi, hC, h5.fr hF (fun c k z => bool_r tmP_i (by omega)), h6.fr hF (fun c k z => bool_r tmP_i (by omega)), h7.fr hF (fun c k z => bool_r tmP_i (by omega))⟩
theorem MP.tk {K' : AT} (h : MP ad T n x Pm c0 t0 a l o sc cl ac V K t) (hF : gFr ad tkP t u) (hK : MT ad Pm l K' u) : MP ad T n x Pm c0 t0 a l o sc cl ac V K' u := by
  obtain ⟨h1, h2, h3, h4, h5, h6, h7⟩ := h
  exact ⟨h1.tr (hF.mo (fun c k z => mr_tk z)), h2, fun i hi => by rw [hF.i 166 i (bool_r tkP_i (by omega))]; exact h3 i hi, h4.fr hF (fun k _ _ => bool_r tkP_i (by omega)), h5.fr hF (fun c k z => bool_r tkP_i (by omega)), h6.fr hF (fun c k z => bool_r tkP_i (by omega)), hK⟩
theorem cuM.vb {P : Nat → Nat → Bool} (h : cuM ad T n a t) (hF : gFr ad P t u) (hP : ∀ k, 3 ≤ k → k ≤ 10 → P 144 k = false) (hv : vB ad u) : cuM ad T n a u := by
  have e : ∀ k, 3 ≤ k → k ≤ 10 → u.2.1 (ad 144) k = t.2.1 (ad 144) k := fun k h1 h2 => hF.i 144 k (hP k h1 h2)
  have ej : ∀ k, 3 ≤ k → k ≤ 10 → u.2.2.1 (ad 144) k = t.2.2.1 (ad 144) k := fun k h1 h2 => hF.j 144 k (hP k h1 h2)
  unfold cuM lvM hdM at h ⊢
  rw [e 3 (by decide) (by decide), e 4 (by decide) (by decide), e 5 (by decide) (by decide), e 6 (by decide) (by decide), e 7 (by decide) (by decide), e 8 (by decide) (by decide), ej 9 (by decide) (by decide), ej 10 (by decide) (by decide)]
  exact ⟨⟨h.1.1, h.1.2.1, hv⟩, h.2⟩
theorem hcM.vb {P : Nat → Nat → Bool} (h : hcM ad T n a t) (hF : gFr ad P t u) (hP : ∀ k, 3 ≤ k → k ≤ 10 → P 144 k = false) (hv : vB ad u) : hcM ad T n a u := by
  have e : ∀ k, 3 ≤ k → k ≤ 10 → u.2.1 (ad 144) k = t.2.1 (ad 144) k := fun k h1 h2 => hF.i 144 k (hP k h1 h2)
  have ej : ∀ k, 3 ≤ k → k ≤ 10 → u.2.2.1 (ad 144) k = t.2.2.1 (ad 144) k := fun k h1 h2 => hF.j 144 k (hP k h1 h2)
  unfold hcM lvM hdM at h ⊢
  rw [e 3 (by decide) (by decide), e 4 (by decide) (by decide), e 5 (by decide) (by decide), e 6 (by decide) (by decide), e 7 (by decide) (by decide), e 8 (by decide) (by decide), ej 9 (by decide) (by decide), ej 10 (by decide) (by decide)]
  exact ⟨⟨h.1.1, h.1.2.1, hv⟩, h.2⟩
theorem MP.mn {V' : Fo} (h : MP ad T n x Pm c0 t0 a l o sc cl ac V K t) (hF : gFr ad (mvvP x) t u) (hV : MV ad x V' u) (hb : fo_l V' ≤ 2000) : MP ad T n x Pm c0 t0 a l o sc cl ac V' K u := by
  obtain ⟨h1, h2, h3, h4, h5, h6, h7⟩ := h
  exact ⟨h1.tr (hF.mo (fun c k z => mr_mn z)), h2, fun i hi => by rw [hF.i 166 i (bool_r mvvP_i (by omega))]; exact h3 i hi, h4.vb hF (fun k _ _ => bool_r mvvP_i (by omega)) ⟨_, hV.1, hb⟩, h5.fr hF (fun c k z => bool_r mvvP_i (by omega)), hV, h7.fr hF (fun c k z => bool_r mvvP_i (by omega))⟩
theorem MP.fl (h : MP ad T n x Pm c0 t0 a l o sc cl ac V K t) (hn : fo_n V < 2 ^ 31) : fo_l V ≤ 2000 := by
  obtain ⟨q, h1, h2⟩ := h.2.2.2.1.1.2.2
  have h3 := h.2.2.2.2.2.1.1
  have hl := fo_ln V
  rw [h3, nI_eq (by omega) (by omega)] at h1
  omega
theorem MP.L (h : MP ad T n x Pm c0 t0 a l o sc cl ac V K t) : Lay t ad := h.1.L
theorem MP.X (h : MP ad T n x Pm c0 t0 a l o sc cl ac V K t) : txM ad T n t := h.2.1.fr h.1 (bool_r mxP_i (by omega)) (fun k => bool_r mxP_i (by omega))
theorem MP.lv (h : MP ad T n x Pm c0 t0 a l o sc cl ac V K t) : t.2.1 (ad 144) 3 = 0 := h.2.2.2.1.1.1
theorem m_lookP (h : MP ad T n x Pm c0 t0 a l o sc cl ac V K t) (ha : a ≤ n) (k1 : tkK T n a ≠ 23 → ∀ u, MPh ad T n x Pm c0 t0 a l o sc cl ac V K u → post (some (.int (nI (tkK T n a)))) u) (k2 : tkK T n a = 23 → ∀ u, gFr ad tmP t u → DD ad x t0 1 (tkS T n a) u → post (some (.int (-1))) u) : g_E cx (d + 4) i_Mo_look [.ref (ad 144)] t post :=
  m_tok h.L h.X ha h.2.2.2.1 (fun u F H => k1 H.2.2.1 u ⟨h.tm F H.cu, H⟩) (fun u F hk H => k2 hk u F ⟨h.1.tr (F.mo (fun c k z => mr_tm z)), H⟩)
theorem m_takeP (h : MPh ad T n x Pm c0 t0 a l o sc cl ac V K t) (k1 : ∀ u, gFr ad tmP t u → MP ad T n x Pm c0 t0 (tkE T n a) l o sc cl ac V K u → post none u) : g_E cx (d + 1) i_Mo_take [.ref (ad 144)] t post := by
  have F : gFr ad tmP t (g_si t (ad 144) f_Mo_seen 0) := (gFr.rf h.1.L).si rfl
  refine m_Mo_take (h.1.L.k 144 (by decide)) (k1 _ F ?_)
  refine h.1.tm F ⟨⟨?_, ?_, h.2.1.2.2.fr F rfl⟩, Or.inl ⟨g_rd_at, ?_⟩⟩
  · rw [g_rd_k (by decide)]; exact h.2.1.1
  · rw [g_rd_k (by decide)]; exact h.2.1.2.1
  · rw [g_rd_k (by decide)]; exact h.2.2.2.2.1
theorem m_failD2 {c p : Int32} (hL : Lay t ad) (h0 : ¬ t.2.1 (ad 144) 3 = 0) (h : post none t) : g_E cx (d + 1) i_Mo_fail [.ref (ad 144), .int c, .int p] t post :=
  m_Mo_fail (hL.k 144 (by decide)) (fun q => absurd q h0) (fun _ => h)
theorem m_failP {c : Nat} (hc : 1 ≤ c ∧ c ≤ 7) (h : MPh ad T n x Pm c0 t0 a l o sc cl ac V K t) (k1 : ∀ u, gFr ad tmP t u → DD ad x t0 c (tkS T n a) u → post none u) : g_E cx (d + 1) i_Mo_fail [.ref (ad 144), .int (nI c), .int (t.2.1 (ad 144) 8)] t post := by
  rw [h.2.2.2.2.2.2.1]
  exact m_fail h.1.L hc h.1.lv h.2.1.2.2 (fun u F H _ => k1 u F ⟨h.1.1.tr (F.mo (fun c k z => mr_tm z)), H⟩)
theorem m_mustP {kk : Nat} (hkk : kk < 23) (h : MP ad T n x Pm c0 t0 a l o sc cl ac V K t) (ha : a ≤ n) (k1 : tkK T n a = kk → ∀ u, gFr ad tmP t u → MP ad T n x Pm c0 t0 (tkE T n a) l o sc cl ac V K u → post (some (.int 1)) u) (k2 : tkK T n a ≠ kk → ∀ u, gFr ad tmP t u → DD ad x t0 (fcd T n a) (tkS T n a) u → post (some (.int 0)) u) : g_E cx (d + 5) i_Mo_must [.ref (ad 144), .int (nI kk)] t post := by
  refine x_Mo_must h.L ?_
  refine m_tok h.L h.X ha h.2.2.2.1 (fun u F H => ⟨_, rfl, F.L, fun q => ?_, fun q => ?_⟩) (fun u F hk H => ⟨_, rfl, F.L, fun q => ?_, fun _ => ?_⟩)
  · have e := (nI_eq (by have := tkK_le (T := T) (n := n) (a := a); omega) (by omega)).mp q
    exact m_takeP ⟨h.tm F H.cu, H⟩ (fun w Fw hw => ⟨rfl, hw.L, k1 e w (F.tr Fw) hw⟩)
  · have e : tkK T n a ≠ kk := fun z => q (by rw [z])
    have ef : fcd T n a = 2 := if_neg H.2.2.1
    exact m_failP (c := 2) (by decide) ⟨h.tm F H.cu, H⟩ (fun w Fw hw => ⟨rfl, Fw.L, k2 e w (F.tr Fw) (by rw [ef]; exact hw)⟩)
  · have : (-1 : Int32) < 0 := by decide
    rw [q] at this
    exact absurd this (nI_pos (by omega))
  · have ef : fcd T n a = 1 := if_pos hk
    exact m_failD2 F.L H.ne.1 ⟨rfl, F.L, k2 (by omega) u F ⟨h.1.tr (F.mo (fun c k z => mr_tm z)), by rw [ef]; exact H⟩⟩
theorem MS.op (h : MS ad x Pm l o sc cl ac t) {o' : Nat} (e : u = g_si t (ad 144) 24 (nI o')) (hL : Lay t ad) : MS ad x Pm l o' sc cl ac u := by
  have F : gFr ad (fun c k => Nat.beq c 144 && Nat.beq k 24) t u := by rw [e]; exact (gFr.rf hL).si rfl
  have hF : ∀ c k, ¬ (c = 144 ∧ k = 24) → (Nat.beq c 144 && Nat.beq k 24) = false := fun c k z => Bool.eq_false_iff.mpr (fun q => z (by simpa using q))
  obtain ⟨h1, h2, h3, h4, ⟨h5, h6⟩, h7, h8⟩ := h
  refine ⟨?_, ?_, ?_, by rw [e, g_rd_at], ⟨?_, fun i q hq => ?_⟩, ?_, fun i q hq => ?_⟩
  · rw [F.i 144 23 (hF _ _ (by omega))]; exact h1
  · rw [F.i 144 45 (hF _ _ (by omega))]; exact h2
  · rw [F.i 144 25 (hF _ _ (by omega))]; exact h3
  · rw [F.i 144 28 (hF _ _ (by omega))]; exact h5
  · rw [F.j 157 i (hF _ _ (by omega)), F.i 158 i (hF _ _ (by omega))]; exact h6 i q hq
  · rw [F.i 144 35 (hF _ _ (by omega))]; exact h7
  · rw [F.j 163 i (hF _ _ (by omega)), F.i 164 i (hF _ _ (by omega)), F.i 165 i (hF _ _ (by omega)), F.i 167 i (hF _ _ (by omega))]; exact h8 i q hq
/-- another number of open things -/
theorem MP.op {o' : Nat} (h : MP ad T n x Pm c0 t0 a l o sc cl ac V K t) (e : u = g_si t (ad 144) 24 (nI o')) : MP ad T n x Pm c0 t0 a l o' sc cl ac V K u := by
  have F : gFr ad (fun c k => Nat.beq c 144 && Nat.beq k 24) t u := by rw [e]; exact (gFr.rf h.L).si rfl
  have hF : ∀ c k, ¬ (c = 144 ∧ k = 24) → (Nat.beq c 144 && Nat.beq k 24) = false := fun c k z => Bool.eq_false_iff.mpr (fun q => z (by simpa using q))
  have hL := h.L
  obtain ⟨h1, h2, h3, h4, h5, h6, h7⟩ := h
  refine ⟨h1.tr (F.mo (fun c k z => by
    rw [Bool.and_eq_true, Nat.beq_eq, Nat.beq_eq] at z
    rw [mxP_i]
    omega)), h2, fun i hi => by rw [F.i 166 i (hF _ _ (by omega))]; exact h3 i hi, h4.fr F (fun k _ _ => hF _ _ (by omega)), h5.op e hL, h6.fr F (fun c k z => hF _ _ (by omega)), h7.fr F (fun c k z => hF _ _ (by omega))⟩
theorem MPh.op {o' : Nat} (h : MPh ad T n x Pm c0 t0 a l o sc cl ac V K t) (e : u = g_si t (ad 144) 24 (nI o')) : MPh ad T n x Pm c0 t0 a l o' sc cl ac V K u := by
  have F : gFr ad (fun c k => Nat.beq c 144 && Nat.beq k 24) t u := by rw [e]; exact (gFr.rf h.1.L).si rfl
  exact ⟨h.1.op e, h.2.fr F (fun k h1 h2 => Bool.eq_false_iff.mpr (fun q => by
    rw [Bool.and_eq_true, Nat.beq_eq, Nat.beq_eq] at q
    omega))⟩
theorem m_opensP (h : MPh ad T n x Pm c0 t0 a l o sc cl ac V K t) (ho : o ≤ 30) (k1 : o < 30 → ∀ u, MP ad T n x Pm c0 t0 (tkE T n a) l (o + 1) sc cl ac V K u → post (some (.int 1)) u) (k2 : o = 30 → ∀ u, DD ad x t0 5 (tkS T n a) u → post (some (.int 0)) u) : g_E cx (d + 2) i_Mo_opens [.ref (ad 144)] t post := by
  have e24 : t.2.1 (ad 144) 24 = nI o := h.1.2.2.2.2.1.2.2.2.1
  refine x_Mo_opens h.1.L ?_
  rw [e24, show (30 : Int32) = nI 30 from rfl, nI_eq (by omega) (by decide)]
  refine ⟨fun q t1 e1 => ?_, fun q => m_failP (c := 5) (by decide) h (fun u _ H => ⟨rfl, H.1.L, k2 (by omega) u H⟩)⟩
  rw [nI_1] at e1
  exact m_takeP (h.op e1) (fun u _ H => ⟨rfl, H.L, k1 (by omega) u H⟩)
theorem m_pushP {q : Nat × Nat × List Nat} (h : MP ad T n x Pm c0 t0 a l o sc cl ac V K t) (hl : K.length < 20000) (hq : q.1 = 2 → q.2.1 < Pm + l ∧ q.2.1 < 50 ∧ t.2.2.1 (ad 168) q.2.1 = pk6 q.2.2) (k1 : ∀ u, gFr ad tkP t u → MP ad T n x Pm c0 t0 a l o sc cl ac V (K ++ [q]) u → post none u) : g_E cx (d + 1) i_Mo_push [.ref (ad 144), .int (nI q.1), .int (nI q.2.1), .int 0] t post := by
  refine m_pushT h.L h.2.2.2.2.2.2.1 (by rw [List.length_map]; exact hl) (fun u F H => k1 u F (h.tk F ⟨by rw [List.map_append]; exact H, fun z hz e => ?_⟩))
  rw [F.j 168 _ (bool_r tkP_i (by omega))]
  rcases List.mem_append.mp hz with hz | hz
  · exact h.2.2.2.2.2.2.2 z hz e
  · rw [List.mem_singleton.mp hz] at e ⊢
    exact hq e
theorem m_pushH {q : Nat × Nat × List Nat} (h : MPh ad T n x Pm c0 t0 a l o sc cl ac V K t) (hl : K.length < 20000) (hq : q.1 ≠ 2) (k1 : ∀ u, MPh ad T n x Pm c0 t0 a l o sc cl ac V (K ++ [q]) u → post none u) : g_E cx (d + 1) i_Mo_push [.ref (ad 144), .int (nI q.1), .int (nI q.2.1), .int 0] t post :=
  m_pushP h.1 hl (fun z => absurd z hq) (fun u F H => k1 u ⟨H, h.2.fr F (fun k _ _ => bool_r tkP_i (by omega))⟩)
theorem DD.tk {c p : Nat} (h : DD ad x t0 c p t) (hF : gFr ad tkP t u) : DD ad x t0 c p u := ⟨h.1.tr (hF.mo (fun c k z => mr_tk z)), ⟨h.2.1.1, h.2.1.2.fr hF rfl⟩, by rw [hF.i 144 3 (bool_r tkP_i (by omega))]; exact h.2.2.1, by rw [hF.i 144 4 (bool_r tkP_i (by omega))]; exact h.2.2.2⟩
theorem m_pushD {q : Nat × Nat × List Nat} {c p : Nat} (h : DD ad x t0 c p t) (hT : RT ad (K.map tkm) t) (hl : K.length < 20000) (k1 : ∀ u, DD ad x t0 c p u → RT ad ((K ++ [q]).map tkm) u → post none u) : g_E cx (d + 1) i_Mo_push [.ref (ad 144), .int (nI q.1), .int (nI q.2.1), .int 0] t post :=
  m_pushT h.1.L hT (by rw [List.length_map]; exact hl) (fun u F H => k1 u (h.tk F) (by rw [List.map_append]; exact H))
theorem MP.rt (h : MP ad T n x Pm c0 t0 a l o sc cl ac V K t) (hF : gFr ad tmP t u) : RT ad (K.map tkm) u := (h.2.2.2.2.2.2.fr hF (fun c k z => bool_r tmP_i (by omega))).1
abbrev HdM (cx : gCx) (d : Nat) (ad : Nat → Nat) (post : Option Value → gSt → Prop) (t : gSt) : Prop := g_W cx (g_E cx (d + 9)) mt_Mo_readExp post (17, [some (.ref (ad 144))], [], t, 0, 0)
/-- the uppermost task is taken -/
theorem h_pop {q : Nat × Nat × List Nat} (h : MP ad T n x Pm c0 t0 a l o sc cl ac V (K ++ [q]) t) (hl : K.length < 20000) (k1 : ∀ t1, MP ad T n x Pm c0 t0 a l o sc cl ac V K t1 → (q.1 = 2 → q.2.1 < Pm + l ∧ q.2.1 < 50 ∧ t1.2.2.1 (ad 168) q.2.1 = pk6 q.2.2) → g_E cx (d + 9) i_Mo_readTask [.ref (ad 144), .int (nI q.1), .int (nI q.2.1), .int 0] t1 (fun r u => r = none ∧ Lay u ad ∧ HdM cx d ad post u)) : HdM cx d ad post t := by
  have hT := h.2.2.2.2.2.2.1
  rw [List.map_append] at hT
  have hlm : (K.map tkm).length = K.length := List.length_map _
  have h29 : t.2.1 (ad 144) 29 = nI (K.length + 1) := by rw [hT.1, List.length_append, hlm]; rfl
  refine x_Mo_readExp_17 h.L ⟨fun z => absurd z (by rw [h29]; exact nI_nle (by omega) (by omega)), fun _ => ⟨fun z => absurd h.lv z, fun _ t1 e1 => ?_⟩⟩
  obtain ⟨p1, p2, p3, p4, p5, p6⟩ := RT.pop (q := tkm q) h.L hT (by rw [hlm]; exact hl) e1
  rw [hlm] at p3 p4 p5 p6
  rw [p3, nI_clamp (by omega), p4, p5, p6]
  have hv := vp_in_nI (n := K.length) (N := 20000) hl (by omega)
  have hlet : ∀ z ∈ K ++ [q], z.1 = 2 → z.2.1 < Pm + l ∧ z.2.1 < 50 ∧ t1.2.2.1 (ad 168) z.2.1 = pk6 z.2.2 := fun z hz e => by
    rw [p2.j 168 _ (bool_r tkP_i (by omega))]
    exact h.2.2.2.2.2.2.2 z hz e
  exact ⟨hv, hv, hv, k1 t1 (h.tk p2 ⟨p1, fun z hz e => hlet z (List.mem_append_left _ hz) e⟩) (fun e => hlet q (List.mem_append_right _ (List.mem_singleton.mpr rfl)) e)⟩
end MO
