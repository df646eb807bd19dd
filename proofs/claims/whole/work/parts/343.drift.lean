/-! drawing -/
def nxs (s : Nat) : Nat := (s * 1103515245 + 12345) % 2 ^ 31
theorem nxs_lt (s : Nat) : nxs s < 2 ^ 31 := Nat.mod_lt _ (by decide)
theorem nxs_l (s : Nat) : ((lN s * (1103515245 : Int64)) + (12345 : Int64)) &&& (2147483647 : Int64) = lN (nxs s) := by
  rw [zj 1103515245, zj 12345, zj 2147483647, lN_mul, lN_add]
  exact fb_maskL _ 31
def drw (s b : Nat) : Nat := s / 65536 % b
theorem c_draw {T : Mem} {p s b : Nat} (hR : rfC T p) (hs : T.2.1 0 6 = nI s) (hs31 : s < 2 ^ 31) (hb : b < 2 ^ 20) (h0 : 0 < b) : f_X8_draw 0 (nI b) T = some (nI (drw (nxs s) b), rowI T 0 (upd (T.2.1 0) 6 (nI (nxs s)))) := by
  have hS := hR.1
  have hn := nxs_lt s
  unfold f_X8_draw
  refine bs (a := nI s) ((g_0 hS 6).trans (congrArg some hs)) ?_
  rw [nI_l hs31, nxs_l, lN_i]
  refine bs (p_0 hS 6 _) (bn (by rw [zi 0, nI_leI (by omega) (by omega)]; omega) (bs (a := nI (nxs s)) ?_ ?_))
  · rw [g_0 (by exact hS)]
    show some (upd (T.2.1 0) 6 (nI (nxs s)) 6) = _
    rw [upd_s]
  · rw [zi 65536, pk_div hn (by decide) (by decide)]
    refine bs (a := nI (drw (nxs s) b)) ?_ rfl
    unfold rmI
    rw [if_neg (fun z => by have := (nI_eq (a := b) (b := 0) (by omega) (by omega)).mp z; omega)]
    exact congrArg some (z_rem (by omega) h0 (by omega))
def mds (M : Mem) (s : Nat) (m : Nat → Nat) : Mem := sn (rowJ M 216 (vp_updL (M.2.2.1 216) 8 (lN s))) m
theorem mds_8 {M : Mem} {s : Nat} {m : Nat → Nat} : (mds M s m).2.2.1 216 8 = lN s := by
  show vp_updL (M.2.2.1 216) 8 (lN s) 8 = _
  unfold vp_updL; rw [if_pos rfl]
theorem mds_up {M : Mem} {s s' : Nat} {m : Nat → Nat} : rowJ (mds M s m) 216 (vp_updL ((mds M s m).2.2.1 216) 8 (lN s')) = mds M s' m := by
  have : vp_updL (vp_updL (M.2.2.1 216) 8 (lN s)) 8 (lN s') = vp_updL (M.2.2.1 216) 8 (lN s') := by
    funext k; unfold vp_updL; by_cases h : k = 8 <;> simp [h]
  show rowJ (rowJ (rowJ M 216 (vp_updL (M.2.2.1 216) 8 (lN s))) 220 (LL m)) 216 (vp_updL (vp_updL (M.2.2.1 216) 8 (lN s)) 8 (lN s')) = _
  rw [this]
  unfold mds sn rowJ
  congr 3
  funext x
  by_cases h : x = 216
  · subst h; rfl
  · by_cases h2 : x = 220
    · subst h2; rfl
    · simp [h, h2]
theorem m_drawn {M : Mem} {p s b : Nat} {m : Nat → Nat} (hR : rfC M p) (hb : b < 2 ^ 20) (h0 : 0 < b) : f_X9_drawn 216 (nI b) (mds M s m) = some (nI (drw (nxs s) b), mds M (nxs s) m) := by
  have hS := hR.1
  have hn := nxs_lt s
  unfold f_X9_drawn
  refine bs (a := lN s) ((mgJ (by exact hS) 8).trans (congrArg some mds_8)) ?_
  rw [nxs_l]
  refine bs (a := mds M (nxs s) m) ((mpJ (by exact hS) 8 _).trans (congrArg some mds_up)) (bs (a := lN (nxs s)) ((mgJ (by exact hS) 8).trans (congrArg some mds_8)) ?_)
  rw [zj 65536, pk_lDiv (by omega) (by decide) (by decide), nI_l (by omega)]
  refine bs (a := lN (drw (nxs s) b)) ?_ (by rw [lN_i])
  unfold rmJ
  rw [if_neg (fun z => by
    have := congrArg Int64.toInt z
    rw [pk_lT (by omega)] at this
    simp at this
    omega)]
  exact congrArg some (zl_rem (by omega) h0 (by omega))
def dr2 (n : Nat → Nat) (r w c s2 s3 : Nat) : Nat × (Nat → Nat) :=
  if w = 2 then (s3, va_up n (10 + r) c)
  else if w = 0 then (s2, va_up n 4 (setb (n 4) r true))
  else if w = 1 then (s2, va_up n 4 (setb (n 4) r false))
  else if w = 3 then (s2, va_up n 5 (setb (n 5) r true))
  else (s2, va_up n 5 (setb (n 5) r false))
def dr1 (P : Pal) (s : Nat) (n : Nat → Nat) : Nat × (Nat → Nat) := dr2 n (drw (nxs s) (rms P)) (drw (nxs (nxs s)) 5) (drw (nxs (nxs (nxs s))) 10) (nxs (nxs s)) (nxs (nxs (nxs s)))
