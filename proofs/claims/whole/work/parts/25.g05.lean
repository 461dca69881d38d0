theorem dX8_rank_0 : decode cX8_rank 0 = .ok (.aload_n 0, 1) := by decide +kernel
theorem dX8_rank_1 : decode cX8_rank 1 = .ok (.iconst (-1), 1) := by decide +kernel
theorem dX8_rank_2 : decode cX8_rank 2 = .ok (.putfield 24, 3) := by decide +kernel
theorem dX8_rank_5 : decode cX8_rank 5 = .ok (.iconst 0, 1) := by decide +kernel
theorem dX8_rank_6 : decode cX8_rank 6 = .ok (.istore_n 1, 1) := by decide +kernel
theorem dX8_rank_7 : decode cX8_rank 7 = .ok (.iload_n 1, 1) := by decide +kernel
theorem dX8_rank_8 : decode cX8_rank 8 = .ok (.aload_n 0, 1) := by decide +kernel
theorem dX8_rank_9 : decode cX8_rank 9 = .ok (.getfield 28, 3) := by decide +kernel
theorem dX8_rank_12 : decode cX8_rank 12 = .ok (.if_icmp .ge 174, 3) := by decide +kernel
theorem dX8_rank_15 : decode cX8_rank 15 = .ok (.aload_n 0, 1) := by decide +kernel
theorem dX8_rank_16 : decode cX8_rank 16 = .ok (.getfield 18, 3) := by decide +kernel
theorem dX8_rank_19 : decode cX8_rank 19 = .ok (.iload_n 1, 1) := by decide +kernel
theorem dX8_rank_20 : decode cX8_rank 20 = .ok (.iconst (-1), 1) := by decide +kernel
theorem dX8_rank_21 : decode cX8_rank 21 = .ok (.iastore, 1) := by decide +kernel
theorem dX8_rank_22 : decode cX8_rank 22 = .ok (.aload_n 0, 1) := by decide +kernel
theorem dX8_rank_23 : decode cX8_rank 23 = .ok (.getfield 21, 3) := by decide +kernel
theorem dX8_rank_26 : decode cX8_rank 26 = .ok (.iload_n 1, 1) := by decide +kernel
theorem dX8_rank_27 : decode cX8_rank 27 = .ok (.iconst (-1), 1) := by decide +kernel
theorem dX8_rank_28 : decode cX8_rank 28 = .ok (.iastore, 1) := by decide +kernel
theorem dX8_rank_29 : decode cX8_rank 29 = .ok (.iconst 0, 1) := by decide +kernel
theorem dX8_rank_30 : decode cX8_rank 30 = .ok (.istore_n 2, 1) := by decide +kernel
theorem dX8_rank_31 : decode cX8_rank 31 = .ok (.iload_n 2, 1) := by decide +kernel
theorem dX8_rank_32 : decode cX8_rank 32 = .ok (.aload_n 0, 1) := by decide +kernel
theorem dX8_rank_33 : decode cX8_rank 33 = .ok (.getfield 28, 3) := by decide +kernel
theorem dX8_rank_36 : decode cX8_rank 36 = .ok (.if_icmp .ge 113, 3) := by decide +kernel
theorem dX8_rank_39 : decode cX8_rank 39 = .ok (.aload_n 0, 1) := by decide +kernel
theorem dX8_rank_40 : decode cX8_rank 40 = .ok (.getfield 15, 3) := by decide +kernel
theorem dX8_rank_43 : decode cX8_rank 43 = .ok (.iload_n 2, 1) := by decide +kernel
theorem dX8_rank_44 : decode cX8_rank 44 = .ok (.iaload, 1) := by decide +kernel
theorem dX8_rank_45 : decode cX8_rank 45 = .ok (.aload_n 0, 1) := by decide +kernel
theorem dX8_rank_46 : decode cX8_rank 46 = .ok (.getfield 15, 3) := by decide +kernel
theorem dX8_rank_49 : decode cX8_rank 49 = .ok (.iload_n 1, 1) := by decide +kernel
theorem dX8_rank_50 : decode cX8_rank 50 = .ok (.iaload, 1) := by decide +kernel
theorem dX8_rank_51 : decode cX8_rank 51 = .ok (.if_icmp .ge 40, 3) := by decide +kernel
theorem dX8_rank_54 : decode cX8_rank 54 = .ok (.aload_n 0, 1) := by decide +kernel
theorem dX8_rank_55 : decode cX8_rank 55 = .ok (.getfield 18, 3) := by decide +kernel
theorem dX8_rank_58 : decode cX8_rank 58 = .ok (.iload_n 1, 1) := by decide +kernel
theorem dX8_rank_59 : decode cX8_rank 59 = .ok (.iaload, 1) := by decide +kernel
theorem dX8_rank_60 : decode cX8_rank 60 = .ok (.iconst (-1), 1) := by decide +kernel
theorem dX8_rank_61 : decode cX8_rank 61 = .ok (.if_icmp .eq 23, 3) := by decide +kernel
theorem dX8_rank_64 : decode cX8_rank 64 = .ok (.aload_n 0, 1) := by decide +kernel
theorem dX8_rank_65 : decode cX8_rank 65 = .ok (.getfield 15, 3) := by decide +kernel
theorem dX8_rank_68 : decode cX8_rank 68 = .ok (.iload_n 2, 1) := by decide +kernel
theorem dX8_rank_69 : decode cX8_rank 69 = .ok (.iaload, 1) := by decide +kernel
theorem dX8_rank_70 : decode cX8_rank 70 = .ok (.aload_n 0, 1) := by decide +kernel
theorem dX8_rank_71 : decode cX8_rank 71 = .ok (.getfield 15, 3) := by decide +kernel
theorem dX8_rank_74 : decode cX8_rank 74 = .ok (.aload_n 0, 1) := by decide +kernel
theorem dX8_rank_75 : decode cX8_rank 75 = .ok (.getfield 18, 3) := by decide +kernel
theorem dX8_rank_78 : decode cX8_rank 78 = .ok (.iload_n 1, 1) := by decide +kernel
theorem dX8_rank_79 : decode cX8_rank 79 = .ok (.iaload, 1) := by decide +kernel
theorem dX8_rank_80 : decode cX8_rank 80 = .ok (.iaload, 1) := by decide +kernel
theorem dX8_rank_81 : decode cX8_rank 81 = .ok (.if_icmp .le 10, 3) := by decide +kernel
theorem dX8_rank_84 : decode cX8_rank 84 = .ok (.aload_n 0, 1) := by decide +kernel
theorem dX8_rank_85 : decode cX8_rank 85 = .ok (.getfield 18, 3) := by decide +kernel
theorem dX8_rank_88 : decode cX8_rank 88 = .ok (.iload_n 1, 1) := by decide +kernel
theorem dX8_rank_89 : decode cX8_rank 89 = .ok (.iload_n 2, 1) := by decide +kernel
theorem dX8_rank_90 : decode cX8_rank 90 = .ok (.iastore, 1) := by decide +kernel
theorem dX8_rank_91 : decode cX8_rank 91 = .ok (.aload_n 0, 1) := by decide +kernel
theorem dX8_rank_92 : decode cX8_rank 92 = .ok (.getfield 15, 3) := by decide +kernel
theorem dX8_rank_95 : decode cX8_rank 95 = .ok (.iload_n 2, 1) := by decide +kernel
theorem dX8_rank_96 : decode cX8_rank 96 = .ok (.iaload, 1) := by decide +kernel
theorem dX8_rank_97 : decode cX8_rank 97 = .ok (.aload_n 0, 1) := by decide +kernel
theorem dX8_rank_98 : decode cX8_rank 98 = .ok (.getfield 15, 3) := by decide +kernel
theorem dX8_rank_101 : decode cX8_rank 101 = .ok (.iload_n 1, 1) := by decide +kernel
theorem dX8_rank_102 : decode cX8_rank 102 = .ok (.iaload, 1) := by decide +kernel
theorem dX8_rank_103 : decode cX8_rank 103 = .ok (.if_icmp .le 40, 3) := by decide +kernel
theorem dX8_rank_106 : decode cX8_rank 106 = .ok (.aload_n 0, 1) := by decide +kernel
theorem dX8_rank_107 : decode cX8_rank 107 = .ok (.getfield 21, 3) := by decide +kernel
theorem dX8_rank_110 : decode cX8_rank 110 = .ok (.iload_n 1, 1) := by decide +kernel
theorem dX8_rank_111 : decode cX8_rank 111 = .ok (.iaload, 1) := by decide +kernel
theorem dX8_rank_112 : decode cX8_rank 112 = .ok (.iconst (-1), 1) := by decide +kernel
theorem dX8_rank_113 : decode cX8_rank 113 = .ok (.if_icmp .eq 23, 3) := by decide +kernel
theorem dX8_rank_116 : decode cX8_rank 116 = .ok (.aload_n 0, 1) := by decide +kernel
theorem dX8_rank_117 : decode cX8_rank 117 = .ok (.getfield 15, 3) := by decide +kernel
theorem dX8_rank_120 : decode cX8_rank 120 = .ok (.iload_n 2, 1) := by decide +kernel
theorem dX8_rank_121 : decode cX8_rank 121 = .ok (.iaload, 1) := by decide +kernel
theorem dX8_rank_122 : decode cX8_rank 122 = .ok (.aload_n 0, 1) := by decide +kernel
theorem dX8_rank_123 : decode cX8_rank 123 = .ok (.getfield 15, 3) := by decide +kernel
theorem dX8_rank_126 : decode cX8_rank 126 = .ok (.aload_n 0, 1) := by decide +kernel
theorem dX8_rank_127 : decode cX8_rank 127 = .ok (.getfield 21, 3) := by decide +kernel
theorem dX8_rank_130 : decode cX8_rank 130 = .ok (.iload_n 1, 1) := by decide +kernel
theorem dX8_rank_131 : decode cX8_rank 131 = .ok (.iaload, 1) := by decide +kernel
theorem dX8_rank_132 : decode cX8_rank 132 = .ok (.iaload, 1) := by decide +kernel
theorem dX8_rank_133 : decode cX8_rank 133 = .ok (.if_icmp .ge 10, 3) := by decide +kernel
theorem dX8_rank_136 : decode cX8_rank 136 = .ok (.aload_n 0, 1) := by decide +kernel
theorem dX8_rank_137 : decode cX8_rank 137 = .ok (.getfield 21, 3) := by decide +kernel
theorem dX8_rank_140 : decode cX8_rank 140 = .ok (.iload_n 1, 1) := by decide +kernel
theorem dX8_rank_141 : decode cX8_rank 141 = .ok (.iload_n 2, 1) := by decide +kernel
theorem dX8_rank_142 : decode cX8_rank 142 = .ok (.iastore, 1) := by decide +kernel
theorem dX8_rank_143 : decode cX8_rank 143 = .ok (.iinc 2 1, 3) := by decide +kernel
theorem dX8_rank_146 : decode cX8_rank 146 = .ok (.goto (-115), 3) := by decide +kernel
theorem dX8_rank_149 : decode cX8_rank 149 = .ok (.aload_n 0, 1) := by decide +kernel
theorem dX8_rank_150 : decode cX8_rank 150 = .ok (.getfield 24, 3) := by decide +kernel
theorem dX8_rank_153 : decode cX8_rank 153 = .ok (.iconst (-1), 1) := by decide +kernel
theorem dX8_rank_154 : decode cX8_rank 154 = .ok (.if_icmp .eq 21, 3) := by decide +kernel
theorem dX8_rank_157 : decode cX8_rank 157 = .ok (.aload_n 0, 1) := by decide +kernel
theorem dX8_rank_158 : decode cX8_rank 158 = .ok (.getfield 15, 3) := by decide +kernel
theorem dX8_rank_161 : decode cX8_rank 161 = .ok (.iload_n 1, 1) := by decide +kernel
theorem dX8_rank_162 : decode cX8_rank 162 = .ok (.iaload, 1) := by decide +kernel
theorem dX8_rank_163 : decode cX8_rank 163 = .ok (.aload_n 0, 1) := by decide +kernel
theorem dX8_rank_164 : decode cX8_rank 164 = .ok (.getfield 15, 3) := by decide +kernel
theorem dX8_rank_167 : decode cX8_rank 167 = .ok (.aload_n 0, 1) := by decide +kernel
theorem dX8_rank_168 : decode cX8_rank 168 = .ok (.getfield 24, 3) := by decide +kernel
theorem dX8_rank_171 : decode cX8_rank 171 = .ok (.iaload, 1) := by decide +kernel
theorem dX8_rank_172 : decode cX8_rank 172 = .ok (.if_icmp .ge 8, 3) := by decide +kernel
theorem dX8_rank_175 : decode cX8_rank 175 = .ok (.aload_n 0, 1) := by decide +kernel
theorem dX8_rank_176 : decode cX8_rank 176 = .ok (.iload_n 1, 1) := by decide +kernel
theorem dX8_rank_177 : decode cX8_rank 177 = .ok (.putfield 24, 3) := by decide +kernel
theorem dX8_rank_180 : decode cX8_rank 180 = .ok (.iinc 1 1, 3) := by decide +kernel
theorem dX8_rank_183 : decode cX8_rank 183 = .ok (.goto (-176), 3) := by decide +kernel
theorem dX8_rank_186 : decode cX8_rank 186 = .ok (.return_, 1) := by decide +kernel
noncomputable def F8_rank_b180 (kh : Int32 → Mem → Option (Mem)) (v0 : Nat) (a1 : Int32) (M : Mem) : Option (Mem) :=
  kh (a1 + (1 : Int32)) M
noncomputable def F8_rank_b175 (kh : Int32 → Mem → Option (Mem)) (v0 : Nat) (a1 : Int32) (M : Mem) : Option (Mem) :=
  (F8_rank_b180 kh v0) a1 (mset M v0 5 a1)
noncomputable def F8_rank_b149 (kh : Int32 → Mem → Option (Mem)) (v0 : Nat) (a1 : Int32) (M : Mem) : Option (Mem) :=
  (if (M v0 5) = (-1 : Int32) then (F8_rank_b175 kh v0) a1 M else (ck a1 8 (ck (M v0 5) 8 (if (M (v0 + 2) (M v0 5).toNatClampNeg) ≤ (M (v0 + 2) a1.toNatClampNeg) then (F8_rank_b180 kh v0) a1 M else (F8_rank_b175 kh v0) a1 M))))
noncomputable def F8_rank_b143 (kh : Int32 → Int32 → Mem → Option (Mem)) (kx149 : Int32 → Mem → Option (Mem)) (v0 : Nat) (a1 : Int32) (a2 : Int32) (M : Mem) : Option (Mem) :=
  kh a1 (a2 + (1 : Int32)) M
noncomputable def F8_rank_b136 (kh : Int32 → Int32 → Mem → Option (Mem)) (kx149 : Int32 → Mem → Option (Mem)) (v0 : Nat) (a1 : Int32) (a2 : Int32) (M : Mem) : Option (Mem) :=
  (ck a1 8 ((F8_rank_b143 kh kx149 v0) a1 a2 (mset M (v0 + 4) a1.toNatClampNeg a2)))
noncomputable def F8_rank_b91 (kh : Int32 → Int32 → Mem → Option (Mem)) (kx149 : Int32 → Mem → Option (Mem)) (v0 : Nat) (a1 : Int32) (a2 : Int32) (M : Mem) : Option (Mem) :=
  (ck a2 8 (ck a1 8 (if (M (v0 + 2) a2.toNatClampNeg) ≤ (M (v0 + 2) a1.toNatClampNeg) then (F8_rank_b143 kh kx149 v0) a1 a2 M else (ck a1 8 (if (M (v0 + 4) a1.toNatClampNeg) = (-1 : Int32) then (F8_rank_b136 kh kx149 v0) a1 a2 M else (ck a2 8 (ck a1 8 (ck (M (v0 + 4) a1.toNatClampNeg) 8 (if (M (v0 + 2) (M (v0 + 4) a1.toNatClampNeg).toNatClampNeg) ≤ (M (v0 + 2) a2.toNatClampNeg) then (F8_rank_b143 kh kx149 v0) a1 a2 M else (F8_rank_b136 kh kx149 v0) a1 a2 M)))))))))
noncomputable def F8_rank_b84 (kh : Int32 → Int32 → Mem → Option (Mem)) (kx149 : Int32 → Mem → Option (Mem)) (v0 : Nat) (a1 : Int32) (a2 : Int32) (M : Mem) : Option (Mem) :=
  (ck a1 8 ((F8_rank_b91 kh kx149 v0) a1 a2 (mset M (v0 + 3) a1.toNatClampNeg a2)))
noncomputable def F8_rank_p31 (kh : Int32 → Int32 → Mem → Option (Mem)) (kx149 : Int32 → Mem → Option (Mem)) (v0 : Nat) (a1 : Int32) (a2 : Int32) (M : Mem) : Option (Mem) :=
  (if (M v0 4) ≤ a2 then kx149 a1 M else (ck a2 8 (ck a1 8 (if (M (v0 + 2) a1.toNatClampNeg) ≤ (M (v0 + 2) a2.toNatClampNeg) then (F8_rank_b91 kh kx149 v0) a1 a2 M else (ck a1 8 (if (M (v0 + 3) a1.toNatClampNeg) = (-1 : Int32) then (F8_rank_b84 kh kx149 v0) a1 a2 M else (ck a2 8 (ck a1 8 (ck (M (v0 + 3) a1.toNatClampNeg) 8 (if (M (v0 + 2) a2.toNatClampNeg) ≤ (M (v0 + 2) (M (v0 + 3) a1.toNatClampNeg).toNatClampNeg) then (F8_rank_b91 kh kx149 v0) a1 a2 M else (F8_rank_b84 kh kx149 v0) a1 a2 M))))))))))
noncomputable def F8_rank_h31 (kx149 : Int32 → Mem → Option (Mem)) (v0 : Nat) : Nat → Int32 → Int32 → Mem → Option (Mem)
  | 0, _, _, _ => none
  | n + 1, a1, a2, M => F8_rank_p31 (F8_rank_h31 kx149 v0 n) kx149 v0 a1 a2 M
noncomputable def F8_rank_p7 (kh : Int32 → Mem → Option (Mem)) (v0 : Nat) (a1 : Int32) (M : Mem) : Option (Mem) :=
  (if (M v0 4) ≤ a1 then some M else (ck a1 8 (ck a1 8 ((F8_rank_h31 (F8_rank_b149 kh v0) v0 FU) a1 (0 : Int32) (mset (mset M (v0 + 3) a1.toNatClampNeg (-1 : Int32)) (v0 + 4) a1.toNatClampNeg (-1 : Int32))))))
noncomputable def F8_rank_h7 (v0 : Nat) : Nat → Int32 → Mem → Option (Mem)
  | 0, _, _ => none
  | n + 1, a1, M => F8_rank_p7 (F8_rank_h7 v0 n) v0 a1 M
noncomputable def F8_rank (v0 : Nat) (mc : Mem) : Option (Mem) :=
  (F8_rank_h7 v0 FU) (0 : Int32) (mset mc v0 5 (-1 : Int32))
set_option maxHeartbeats 4000000 in
set_option maxRecDepth 100000 in
theorem kX8_rank (l : Launch) (g : GG) (v0 : Nat) (h0 : isO 8 v0) (mc mm : Mem) (q : Mem) (hF : F8_rank v0 mc = some q) : KV l yX8_rank cX8_rank 3 0 0 g [.ref (g.1 v0)] mc mm (q, mm) := by
  intro sz
  refine x_start (Qc := fun z => QV g z (q, mm)) (by decide +kernel) (Nat.le_of_ble_eq_true rfl) ?_ sz
  intro p e s m args below meth c ls Z hr hlk hP hl
  have hx := Z.1.1
  have hb := Z.1.2.1
  have hown := Z.1.2.2.2.1
  have hts := Z.1.2.2.2.2
  have hS : va_S (AA g s.heap.size) s.heap s.heap [] := va_S.rf
  have hl : lv_has ls 3 [(0, .ref (g.1 v0))] := hl
  unfold F8_rank at hF
  have hL7 : ∀ n : Nat, ∀ (a1 : Int32) (M : Mem), F8_rank_h7 v0 n a1 M = some q → ∀ (H : Heap) (locs : List Loc) (ls : Array Slot), lv_has ls 3 [(0, .ref (g.1 v0)), (1, .int a1)] → va_P g.2.2.1 vwCl (wL g M mm) H → va_S (AA g s.heap.size) s.heap H locs → W p l e { frames := 0, cells := 0, slots := 0, locals := 0 } s m args below meth c H locs 0 0 (MQ below (QV g s.heap.size (q, mm)) args s 0 0 (AA g s.heap.size)) (F0 m 7 ls []) := by
    intro n
    induction n with
    | zero => intro a1 M hF H locs ls hl hP hS; exact absurd hF (fun z => nomatch (show (none : Option _) = some q from z))
    | succ n ih =>
      generalize hkh : F8_rank_h7 v0 n = kh at ih
      have hb180 : ∀ (a1 : Int32) (M : Mem), F8_rank_b180 kh v0 a1 M = some q → ∀ (H : Heap) (locs : List Loc) (ls : Array Slot), lv_has ls 3 [(0, .ref (g.1 v0)), (1, .int a1)] → va_P g.2.2.1 vwCl (wL g M mm) H → va_S (AA g s.heap.size) s.heap H locs → W p l e { frames := 0, cells := 0, slots := 0, locals := 0 } s m args below meth c H locs 0 0 (MQ below (QV g s.heap.size (q, mm)) args s 0 0 (AA g s.heap.size)) (F0 m 180 ls []) := by
        intro a1 M hF H locs ls hl hP hS
        unfold F8_rank_b180 at hF
        refine lv_iinc (lv' := [(1, .int (a1 + (1 : Int32))), (0, .ref (g.1 v0))]) (v := (a1 + (1 : Int32))) hx hb dX8_rank_180 hl (k := 1) rfl (io_1 _) (Nat.le_of_ble_eq_true rfl) rfl (fun ls hl => ?_)
        refine lv_goto (tgt := 7) hx hb dX8_rank_183 rfl ?_
        exact ih _ _ hF _ _ _ (lv_sub hl [1, 0] rfl) hP hS
      have hb175 : ∀ (a1 : Int32) (M : Mem), F8_rank_b175 kh v0 a1 M = some q → ∀ (H : Heap) (locs : List Loc) (ls : Array Slot), lv_has ls 3 [(0, .ref (g.1 v0)), (1, .int a1)] → va_P g.2.2.1 vwCl (wL g M mm) H → va_S (AA g s.heap.size) s.heap H locs → W p l e { frames := 0, cells := 0, slots := 0, locals := 0 } s m args below meth c H locs 0 0 (MQ below (QV g s.heap.size (q, mm)) args s 0 0 (AA g s.heap.size)) (F0 m 175 ls []) := by
        intro a1 M hF H locs ls hl hP hS
        unfold F8_rank_b175 at hF
        refine lv_aload_n hx hb dX8_rank_175 rfl (lv_at hl 0 rfl) ?_
        refine lv_iload_n hx hb dX8_rank_176 rfl (lv_at hl 1 rfl) ?_
        refine pf8_5 Z hP hS h0 wd_4_2 dX8_rank_177 (fun H locs hP hS => ?_)
        exact hb180 _ _ hF _ _ _ (lv_sub hl [0, 1] rfl) hP hS
      have hb149 : ∀ (a1 : Int32) (M : Mem), F8_rank_b149 kh v0 a1 M = some q → ∀ (H : Heap) (locs : List Loc) (ls : Array Slot), lv_has ls 3 [(0, .ref (g.1 v0)), (1, .int a1)] → va_P g.2.2.1 vwCl (wL g M mm) H → va_S (AA g s.heap.size) s.heap H locs → W p l e { frames := 0, cells := 0, slots := 0, locals := 0 } s m args below meth c H locs 0 0 (MQ below (QV g s.heap.size (q, mm)) args s 0 0 (AA g s.heap.size)) (F0 m 149 ls []) := by
        intro a1 M hF H locs ls hl hP hS
        unfold F8_rank_b149 at hF
        refine lv_aload_n hx hb dX8_rank_149 rfl (lv_at hl 0 rfl) ?_
        refine gf8_5 Z hP h0 wd_4_2 dX8_rank_150 ?_
        refine lv_iconst (v := (-1 : Int32)) hx hb dX8_rank_153 ic_m1 ?_
        refine lv_icmp_eq (tgt := 175) hx hb dX8_rank_154 rfl (fun hc => ?_) (fun hc => ?_)
        · have hF := (if_pos hc).symm.trans hF
          exact hb175 _ _ hF _ _ _ (lv_sub hl [0, 1] rfl) hP hS
        · have hF := (if_neg hc).symm.trans hF
          refine lv_aload_n hx hb dX8_rank_157 rfl (lv_at hl 0 rfl) ?_
          refine gf8_1 Z hP h0 wd_3_23 dX8_rank_158 ?_
          refine lv_iload_n hx hb dX8_rank_161 rfl (lv_at hl 1 rfl) ?_
          obtain ⟨hi19, hF⟩ := ck_ok hF
          refine ra_ld Z hP (ia_8_1 h0) hi19 dX8_rank_162 ?_
          refine lv_aload_n hx hb dX8_rank_163 rfl (lv_at hl 0 rfl) ?_
          refine gf8_1 Z hP h0 wd_3_23 dX8_rank_164 ?_
          refine lv_aload_n hx hb dX8_rank_167 rfl (lv_at hl 0 rfl) ?_
          refine gf8_5 Z hP h0 wd_4_2 dX8_rank_168 ?_
          obtain ⟨hi20, hF⟩ := ck_ok hF
          refine ra_ld Z hP (ia_8_1 h0) hi20 dX8_rank_171 ?_
          refine lv_icmp_ge (tgt := 180) hx hb dX8_rank_172 rfl (fun hc => ?_) (fun hc => ?_)
          · have hF := (if_pos hc).symm.trans hF
            exact hb180 _ _ hF _ _ _ (lv_sub hl [0, 1] rfl) hP hS
          · have hF := (if_neg hc).symm.trans hF
            exact hb175 _ _ hF _ _ _ (lv_sub hl [0, 1] rfl) hP hS
      have hL31 : ∀ (kx149 : Int32 → Mem → Option (Mem)), (∀ (a1 : Int32) (M : Mem), kx149 a1 M = some q → ∀ (H : Heap) (locs : List Loc) (ls : Array Slot), lv_has ls 3 [(0, .ref (g.1 v0)), (1, .int a1)] → va_P g.2.2.1 vwCl (wL g M mm) H → va_S (AA g s.heap.size) s.heap H locs → W p l e { frames := 0, cells := 0, slots := 0, locals := 0 } s m args below meth c H locs 0 0 (MQ below (QV g s.heap.size (q, mm)) args s 0 0 (AA g s.heap.size)) (F0 m 149 ls [])) → ∀ n : Nat, ∀ (a1 : Int32) (a2 : Int32) (M : Mem), F8_rank_h31 kx149 v0 n a1 a2 M = some q → ∀ (H : Heap) (locs : List Loc) (ls : Array Slot), lv_has ls 3 [(0, .ref (g.1 v0)), (1, .int a1), (2, .int a2)] → va_P g.2.2.1 vwCl (wL g M mm) H → va_S (AA g s.heap.size) s.heap H locs → W p l e { frames := 0, cells := 0, slots := 0, locals := 0 } s m args below meth c H locs 0 0 (MQ below (QV g s.heap.size (q, mm)) args s 0 0 (AA g s.heap.size)) (F0 m 31 ls []) := by
        intro kx149 hx149 n
        induction n with
        | zero => intro a1 a2 M hF H locs ls hl hP hS; exact absurd hF (fun z => nomatch (show (none : Option _) = some q from z))
        | succ n ih =>
          generalize hkh : F8_rank_h31 kx149 v0 n = kh at ih
          have hb143 : ∀ (a1 : Int32) (a2 : Int32) (M : Mem), F8_rank_b143 kh kx149 v0 a1 a2 M = some q → ∀ (H : Heap) (locs : List Loc) (ls : Array Slot), lv_has ls 3 [(0, .ref (g.1 v0)), (1, .int a1), (2, .int a2)] → va_P g.2.2.1 vwCl (wL g M mm) H → va_S (AA g s.heap.size) s.heap H locs → W p l e { frames := 0, cells := 0, slots := 0, locals := 0 } s m args below meth c H locs 0 0 (MQ below (QV g s.heap.size (q, mm)) args s 0 0 (AA g s.heap.size)) (F0 m 143 ls []) := by
            intro a1 a2 M hF H locs ls hl hP hS
            unfold F8_rank_b143 at hF
            refine lv_iinc (lv' := [(2, .int (a2 + (1 : Int32))), (0, .ref (g.1 v0)), (1, .int a1)]) (v := (a2 + (1 : Int32))) hx hb dX8_rank_143 hl (k := 2) rfl (io_1 _) (Nat.le_of_ble_eq_true rfl) rfl (fun ls hl => ?_)
            refine lv_goto (tgt := 31) hx hb dX8_rank_146 rfl ?_
            exact ih _ _ _ hF _ _ _ (lv_sub hl [1, 2, 0] rfl) hP hS
          have hb136 : ∀ (a1 : Int32) (a2 : Int32) (M : Mem), F8_rank_b136 kh kx149 v0 a1 a2 M = some q → ∀ (H : Heap) (locs : List Loc) (ls : Array Slot), lv_has ls 3 [(0, .ref (g.1 v0)), (1, .int a1), (2, .int a2)] → va_P g.2.2.1 vwCl (wL g M mm) H → va_S (AA g s.heap.size) s.heap H locs → W p l e { frames := 0, cells := 0, slots := 0, locals := 0 } s m args below meth c H locs 0 0 (MQ below (QV g s.heap.size (q, mm)) args s 0 0 (AA g s.heap.size)) (F0 m 136 ls []) := by
            intro a1 a2 M hF H locs ls hl hP hS
            unfold F8_rank_b136 at hF
            refine lv_aload_n hx hb dX8_rank_136 rfl (lv_at hl 0 rfl) ?_
            refine gf8_3 Z hP h0 wd_4_1 dX8_rank_137 ?_
            refine lv_iload_n hx hb dX8_rank_140 rfl (lv_at hl 1 rfl) ?_
            refine lv_iload_n hx hb dX8_rank_141 rfl (lv_at hl 2 rfl) ?_
            obtain ⟨hi21, hF⟩ := ck_ok hF
            refine ra_st Z hP hS (ia_8_3 h0) hi21 dX8_rank_142 (fun H locs hP hS => ?_)
            exact hb143 _ _ _ hF _ _ _ (lv_sub hl [0, 1, 2] rfl) hP hS
          have hb91 : ∀ (a1 : Int32) (a2 : Int32) (M : Mem), F8_rank_b91 kh kx149 v0 a1 a2 M = some q → ∀ (H : Heap) (locs : List Loc) (ls : Array Slot), lv_has ls 3 [(0, .ref (g.1 v0)), (1, .int a1), (2, .int a2)] → va_P g.2.2.1 vwCl (wL g M mm) H → va_S (AA g s.heap.size) s.heap H locs → W p l e { frames := 0, cells := 0, slots := 0, locals := 0 } s m args below meth c H locs 0 0 (MQ below (QV g s.heap.size (q, mm)) args s 0 0 (AA g s.heap.size)) (F0 m 91 ls []) := by
            intro a1 a2 M hF H locs ls hl hP hS
            unfold F8_rank_b91 at hF
            refine lv_aload_n hx hb dX8_rank_91 rfl (lv_at hl 0 rfl) ?_
            refine gf8_1 Z hP h0 wd_3_23 dX8_rank_92 ?_
            refine lv_iload_n hx hb dX8_rank_95 rfl (lv_at hl 2 rfl) ?_
            obtain ⟨hi22, hF⟩ := ck_ok hF
            refine ra_ld Z hP (ia_8_1 h0) hi22 dX8_rank_96 ?_
            refine lv_aload_n hx hb dX8_rank_97 rfl (lv_at hl 0 rfl) ?_
            refine gf8_1 Z hP h0 wd_3_23 dX8_rank_98 ?_
            refine lv_iload_n hx hb dX8_rank_101 rfl (lv_at hl 1 rfl) ?_
            obtain ⟨hi23, hF⟩ := ck_ok hF
            refine ra_ld Z hP (ia_8_1 h0) hi23 dX8_rank_102 ?_
            refine lv_icmp_le (tgt := 143) hx hb dX8_rank_103 rfl (fun hc => ?_) (fun hc => ?_)
            · have hF := (if_pos hc).symm.trans hF
              exact hb143 _ _ _ hF _ _ _ (lv_sub hl [0, 1, 2] rfl) hP hS
            · have hF := (if_neg hc).symm.trans hF
              refine lv_aload_n hx hb dX8_rank_106 rfl (lv_at hl 0 rfl) ?_
              refine gf8_3 Z hP h0 wd_4_1 dX8_rank_107 ?_
              refine lv_iload_n hx hb dX8_rank_110 rfl (lv_at hl 1 rfl) ?_
              obtain ⟨hi24, hF⟩ := ck_ok hF
              refine ra_ld Z hP (ia_8_3 h0) hi24 dX8_rank_111 ?_
              refine lv_iconst (v := (-1 : Int32)) hx hb dX8_rank_112 ic_m1 ?_
              refine lv_icmp_eq (tgt := 136) hx hb dX8_rank_113 rfl (fun hc => ?_) (fun hc => ?_)
              · have hF := (if_pos hc).symm.trans hF
                exact hb136 _ _ _ hF _ _ _ (lv_sub hl [0, 1, 2] rfl) hP hS
              · have hF := (if_neg hc).symm.trans hF
                refine lv_aload_n hx hb dX8_rank_116 rfl (lv_at hl 0 rfl) ?_
                refine gf8_1 Z hP h0 wd_3_23 dX8_rank_117 ?_
                refine lv_iload_n hx hb dX8_rank_120 rfl (lv_at hl 2 rfl) ?_
                obtain ⟨hi25, hF⟩ := ck_ok hF
                refine ra_ld Z hP (ia_8_1 h0) hi25 dX8_rank_121 ?_
                refine lv_aload_n hx hb dX8_rank_122 rfl (lv_at hl 0 rfl) ?_
                refine gf8_1 Z hP h0 wd_3_23 dX8_rank_123 ?_
                refine lv_aload_n hx hb dX8_rank_126 rfl (lv_at hl 0 rfl) ?_
                refine gf8_3 Z hP h0 wd_4_1 dX8_rank_127 ?_
                refine lv_iload_n hx hb dX8_rank_130 rfl (lv_at hl 1 rfl) ?_
                obtain ⟨hi26, hF⟩ := ck_ok hF
                refine ra_ld Z hP (ia_8_3 h0) hi26 dX8_rank_131 ?_
                obtain ⟨hi27, hF⟩ := ck_ok hF
                refine ra_ld Z hP (ia_8_1 h0) hi27 dX8_rank_132 ?_
                refine lv_icmp_ge (tgt := 143) hx hb dX8_rank_133 rfl (fun hc => ?_) (fun hc => ?_)
                · have hF := (if_pos hc).symm.trans hF
                  exact hb143 _ _ _ hF _ _ _ (lv_sub hl [0, 1, 2] rfl) hP hS
                · have hF := (if_neg hc).symm.trans hF
                  exact hb136 _ _ _ hF _ _ _ (lv_sub hl [0, 1, 2] rfl) hP hS
          have hb84 : ∀ (a1 : Int32) (a2 : Int32) (M : Mem), F8_rank_b84 kh kx149 v0 a1 a2 M = some q → ∀ (H : Heap) (locs : List Loc) (ls : Array Slot), lv_has ls 3 [(0, .ref (g.1 v0)), (1, .int a1), (2, .int a2)] → va_P g.2.2.1 vwCl (wL g M mm) H → va_S (AA g s.heap.size) s.heap H locs → W p l e { frames := 0, cells := 0, slots := 0, locals := 0 } s m args below meth c H locs 0 0 (MQ below (QV g s.heap.size (q, mm)) args s 0 0 (AA g s.heap.size)) (F0 m 84 ls []) := by
            intro a1 a2 M hF H locs ls hl hP hS
            unfold F8_rank_b84 at hF
            refine lv_aload_n hx hb dX8_rank_84 rfl (lv_at hl 0 rfl) ?_
            refine gf8_2 Z hP h0 wd_4_0 dX8_rank_85 ?_
            refine lv_iload_n hx hb dX8_rank_88 rfl (lv_at hl 1 rfl) ?_
            refine lv_iload_n hx hb dX8_rank_89 rfl (lv_at hl 2 rfl) ?_
            obtain ⟨hi28, hF⟩ := ck_ok hF
            refine ra_st Z hP hS (ia_8_2 h0) hi28 dX8_rank_90 (fun H locs hP hS => ?_)
            exact hb91 _ _ _ hF _ _ _ (lv_sub hl [0, 1, 2] rfl) hP hS
          intro a1 a2 M hF H locs ls hl hP hS
          have hF : F8_rank_p31 (F8_rank_h31 kx149 v0 n) kx149 v0 a1 a2 M = some q := hF
          rw [hkh] at hF
          unfold F8_rank_p31 at hF
          refine lv_iload_n hx hb dX8_rank_31 rfl (lv_at hl 2 rfl) ?_
          refine lv_aload_n hx hb dX8_rank_32 rfl (lv_at hl 0 rfl) ?_
          refine gf8_4 Z hP h0 wd_7_23 dX8_rank_33 ?_
          refine lv_icmp_ge (tgt := 149) hx hb dX8_rank_36 rfl (fun hc => ?_) (fun hc => ?_)
          · have hF := (if_pos hc).symm.trans hF
            exact hx149 _ _ hF _ _ _ (lv_sub hl [0, 1] rfl) hP hS
          · have hF := (if_neg hc).symm.trans hF
            refine lv_aload_n hx hb dX8_rank_39 rfl (lv_at hl 0 rfl) ?_
            refine gf8_1 Z hP h0 wd_3_23 dX8_rank_40 ?_
            refine lv_iload_n hx hb dX8_rank_43 rfl (lv_at hl 2 rfl) ?_
            obtain ⟨hi29, hF⟩ := ck_ok hF
            refine ra_ld Z hP (ia_8_1 h0) hi29 dX8_rank_44 ?_
            refine lv_aload_n hx hb dX8_rank_45 rfl (lv_at hl 0 rfl) ?_
            refine gf8_1 Z hP h0 wd_3_23 dX8_rank_46 ?_
            refine lv_iload_n hx hb dX8_rank_49 rfl (lv_at hl 1 rfl) ?_
            obtain ⟨hi30, hF⟩ := ck_ok hF
            refine ra_ld Z hP (ia_8_1 h0) hi30 dX8_rank_50 ?_
            refine lv_icmp_ge (tgt := 91) hx hb dX8_rank_51 rfl (fun hc => ?_) (fun hc => ?_)
            · have hF := (if_pos hc).symm.trans hF
              exact hb91 _ _ _ hF _ _ _ (lv_sub hl [0, 1, 2] rfl) hP hS
            · have hF := (if_neg hc).symm.trans hF
              refine lv_aload_n hx hb dX8_rank_54 rfl (lv_at hl 0 rfl) ?_
              refine gf8_2 Z hP h0 wd_4_0 dX8_rank_55 ?_
              refine lv_iload_n hx hb dX8_rank_58 rfl (lv_at hl 1 rfl) ?_
              obtain ⟨hi31, hF⟩ := ck_ok hF
              refine ra_ld Z hP (ia_8_2 h0) hi31 dX8_rank_59 ?_
              refine lv_iconst (v := (-1 : Int32)) hx hb dX8_rank_60 ic_m1 ?_
              refine lv_icmp_eq (tgt := 84) hx hb dX8_rank_61 rfl (fun hc => ?_) (fun hc => ?_)
              · have hF := (if_pos hc).symm.trans hF
                exact hb84 _ _ _ hF _ _ _ (lv_sub hl [0, 1, 2] rfl) hP hS
              · have hF := (if_neg hc).symm.trans hF
                refine lv_aload_n hx hb dX8_rank_64 rfl (lv_at hl 0 rfl) ?_
                refine gf8_1 Z hP h0 wd_3_23 dX8_rank_65 ?_
                refine lv_iload_n hx hb dX8_rank_68 rfl (lv_at hl 2 rfl) ?_
                obtain ⟨hi32, hF⟩ := ck_ok hF
                refine ra_ld Z hP (ia_8_1 h0) hi32 dX8_rank_69 ?_
                refine lv_aload_n hx hb dX8_rank_70 rfl (lv_at hl 0 rfl) ?_
                refine gf8_1 Z hP h0 wd_3_23 dX8_rank_71 ?_
                refine lv_aload_n hx hb dX8_rank_74 rfl (lv_at hl 0 rfl) ?_
                refine gf8_2 Z hP h0 wd_4_0 dX8_rank_75 ?_
                refine lv_iload_n hx hb dX8_rank_78 rfl (lv_at hl 1 rfl) ?_
                obtain ⟨hi33, hF⟩ := ck_ok hF
                refine ra_ld Z hP (ia_8_2 h0) hi33 dX8_rank_79 ?_
                obtain ⟨hi34, hF⟩ := ck_ok hF
                refine ra_ld Z hP (ia_8_1 h0) hi34 dX8_rank_80 ?_
                refine lv_icmp_le (tgt := 91) hx hb dX8_rank_81 rfl (fun hc => ?_) (fun hc => ?_)
                · have hF := (if_pos hc).symm.trans hF
                  exact hb91 _ _ _ hF _ _ _ (lv_sub hl [0, 1, 2] rfl) hP hS
                · have hF := (if_neg hc).symm.trans hF
                  exact hb84 _ _ _ hF _ _ _ (lv_sub hl [0, 1, 2] rfl) hP hS
      intro a1 M hF H locs ls hl hP hS
      have hF : F8_rank_p7 (F8_rank_h7 v0 n) v0 a1 M = some q := hF
      rw [hkh] at hF
      unfold F8_rank_p7 at hF
      refine lv_iload_n hx hb dX8_rank_7 rfl (lv_at hl 1 rfl) ?_
      refine lv_aload_n hx hb dX8_rank_8 rfl (lv_at hl 0 rfl) ?_
      refine gf8_4 Z hP h0 wd_7_23 dX8_rank_9 ?_
      refine lv_icmp_ge (tgt := 186) hx hb dX8_rank_12 rfl (fun hc => ?_) (fun hc => ?_)
      · have hF := (if_pos hc).symm.trans hF
        exact ret_VWC Z hr hlk hP hS hF dX8_rank_186
      · have hF := (if_neg hc).symm.trans hF
        refine lv_aload_n hx hb dX8_rank_15 rfl (lv_at hl 0 rfl) ?_
        refine gf8_2 Z hP h0 wd_4_0 dX8_rank_16 ?_
        refine lv_iload_n hx hb dX8_rank_19 rfl (lv_at hl 1 rfl) ?_
        refine lv_iconst (v := (-1 : Int32)) hx hb dX8_rank_20 ic_m1 ?_
        obtain ⟨hi35, hF⟩ := ck_ok hF
        refine ra_st Z hP hS (ia_8_2 h0) hi35 dX8_rank_21 (fun H locs hP hS => ?_)
        refine lv_aload_n hx hb dX8_rank_22 rfl (lv_at hl 0 rfl) ?_
        refine gf8_3 Z hP h0 wd_4_1 dX8_rank_23 ?_
        refine lv_iload_n hx hb dX8_rank_26 rfl (lv_at hl 1 rfl) ?_
        refine lv_iconst (v := (-1 : Int32)) hx hb dX8_rank_27 ic_m1 ?_
        obtain ⟨hi36, hF⟩ := ck_ok hF
        refine ra_st Z hP hS (ia_8_3 h0) hi36 dX8_rank_28 (fun H locs hP hS => ?_)
        refine lv_iconst (v := (0 : Int32)) hx hb dX8_rank_29 ic_0 ?_
        refine lv_istore_n (lv' := [(2, .int (0 : Int32)), (0, .ref (g.1 v0)), (1, .int a1)]) hx hb dX8_rank_30 rfl hl (Nat.le_of_ble_eq_true rfl) rfl (fun ls hl => ?_)
        exact (hL31 _ hb149 FU) _ _ _ hF _ _ _ (lv_sub hl [1, 2, 0] rfl) hP hS
  refine lv_aload_n hx hb dX8_rank_0 rfl (lv_at hl 0 rfl) ?_
  refine lv_iconst (v := (-1 : Int32)) hx hb dX8_rank_1 ic_m1 ?_
  refine pf8_5 Z hP hS h0 wd_4_2 dX8_rank_2 (fun H locs hP hS => ?_)
  refine lv_iconst (v := (0 : Int32)) hx hb dX8_rank_5 ic_0 ?_
  refine lv_istore_n (lv' := [(1, .int (0 : Int32)), (0, .ref (g.1 v0))]) hx hb dX8_rank_6 rfl hl (Nat.le_of_ble_eq_true rfl) rfl (fun ls hl => ?_)
  exact (hL7 FU) _ _ hF _ _ _ (lv_sub hl [1, 0] rfl) hP hS
theorem xX8_rank {p : Program} {l : Launch} {e : Env} {R : Room} {s : State} {m : MethodId} {args : Array Value} {below : List Frame} {meth : Method} {c : Code} {H : Heap} {locs : List Loc} {Q : State → Prop} {cc : ByteArray} {nL : Nat} {own : String} {g : GG} {pc index : Nat} {ls : Array Slot} {rest : List Value} {mc mm : Mem} (Z : ZZ p s m args c cc nL own g) (hP : va_P g.2.2.1 vwCl (wL g mc mm) H) (hS : va_S (AA g s.heap.size) s.heap H locs) {v0 : Nat} (h0 : isO 8 v0) {q : Mem} (hq : F8_rank v0 mc = some q) (hlk : Cond.methodLink own index yX8_rank ∈ wsL_law) (hsz : ls.size = nL) (hro : (rest.map fun v => v.category).sum ≤ 8) (hR : 0 + 1 ≤ R.frames ∧ 8 + (3 + 11) + 0 ≤ R.locals) (hdg : decode cc pc = .ok (.invokevirtual index, 3)) (kk : ∀ (H : Heap) (locs : List Loc), va_P g.2.2.1 vwCl (wL g q mm) H → va_S (AA g s.heap.size) s.heap H locs → W p l e R s m args below meth c H locs 0 0 Q (F0 m (pc + 3) ls (rest))) : W p l e R s m args below meth c H locs 0 0 Q (F0 m pc ls (.ref (g.1 v0) :: rest)) :=
  x_VV Z hP hS (kX8_rank l g v0 h0 mc mm q hq) (isO_w h0) (ci := 8) (by decide) rfl rfl mf_X8_rank mv_X8_rank hlk rfl rfl hsz hro hR hdg kk
theorem dX8_take_0 : decode cX8_take 0 = .ok (.aload_n 0, 1) := by decide +kernel
theorem dX8_take_1 : decode cX8_take 1 = .ok (.iconst 0, 1) := by decide +kernel
theorem dX8_take_2 : decode cX8_take 2 = .ok (.putfield 28, 3) := by decide +kernel
theorem dX8_take_5 : decode cX8_take 5 = .ok (.aload_n 1, 1) := by decide +kernel
theorem dX8_take_6 : decode cX8_take 6 = .ok (.getfield 31, 3) := by decide +kernel
theorem dX8_take_9 : decode cX8_take 9 = .ok (.ifCond .ne 7, 3) := by decide +kernel
theorem dX8_take_12 : decode cX8_take 12 = .ok (.iconst (-1), 1) := by decide +kernel
theorem dX8_take_13 : decode cX8_take 13 = .ok (.goto 8, 3) := by decide +kernel
theorem dX8_take_16 : decode cX8_take 16 = .ok (.aload_n 0, 1) := by decide +kernel
theorem dX8_take_17 : decode cX8_take 17 = .ok (.aload_n 1, 1) := by decide +kernel
theorem dX8_take_18 : decode cX8_take 18 = .ok (.invokevirtual 36, 3) := by decide +kernel
theorem dX8_take_21 : decode cX8_take 21 = .ok (.istore_n 2, 1) := by decide +kernel
theorem dX8_take_22 : decode cX8_take 22 = .ok (.iload_n 2, 1) := by decide +kernel
theorem dX8_take_23 : decode cX8_take 23 = .ok (.iconst (-1), 1) := by decide +kernel
theorem dX8_take_24 : decode cX8_take 24 = .ok (.if_icmp .eq 8, 3) := by decide +kernel
theorem dX8_take_27 : decode cX8_take 27 = .ok (.aload_n 0, 1) := by decide +kernel
theorem dX8_take_28 : decode cX8_take 28 = .ok (.iconst 0, 1) := by decide +kernel
theorem dX8_take_29 : decode cX8_take 29 = .ok (.putfield 28, 3) := by decide +kernel
theorem dX8_take_32 : decode cX8_take 32 = .ok (.aload_n 0, 1) := by decide +kernel
theorem dX8_take_33 : decode cX8_take 33 = .ok (.invokevirtual 40, 3) := by decide +kernel
theorem dX8_take_36 : decode cX8_take 36 = .ok (.iload_n 2, 1) := by decide +kernel
theorem dX8_take_37 : decode cX8_take 37 = .ok (.ireturn, 1) := by decide +kernel
noncomputable def F8_take_b32 (v0 : Nat) (v1 : Nat) (a2 : Int32) (M : Mem) : Option (Int32 × Mem) :=
  ((F8_rank v0 M).bind (fun q4 => (some (a2, q4))))
noncomputable def F8_take_b21 (v0 : Nat) (v1 : Nat) (s0 : Int32) (M : Mem) : Option (Int32 × Mem) :=
  (if s0 = (-1 : Int32) then (F8_take_b32 v0 v1) s0 M else (F8_take_b32 v0 v1) s0 (mset M v0 4 (0 : Int32)))
noncomputable def F8_take (v0 : Nat) (v1 : Nat) (mc : Mem) : Option (Int32 × Mem) :=
  (lt (mset mc v0 4 (0 : Int32)) (fun M5 => (if (M5 v1 1) = (0 : Int32) then (F8_take_b21 v0 v1) (-1 : Int32) M5 else ((F8_takeAll v0 v1 M5).bind (fun q6 => ((F8_take_b21 v0 v1) q6.1 q6.2))))))
set_option maxHeartbeats 4000000 in
set_option maxRecDepth 100000 in
theorem kX8_take (l : Launch) (g : GG) (v0 : Nat) (v1 : Nat) (h0 : isO 8 v0) (h1 : isO 7 v1) (mc mm : Mem) (q : Int32 × Mem) (hF : F8_take v0 v1 mc = some q) : KI l yX8_take cX8_take 3 .int 6 151 g [.ref (g.1 v0), .ref (g.1 v1)] mc mm q.1 (q.2, mm) := by
  intro sz
  refine x_start (Qc := fun z => QI g z q.1 (q.2, mm)) (by decide +kernel) (Nat.le_of_ble_eq_true rfl) ?_ sz
  intro p e s m args below meth c ls Z hr hlk hP hl
  have hx := Z.1.1
  have hb := Z.1.2.1
  have hown := Z.1.2.2.2.1
  have hts := Z.1.2.2.2.2
  have hS : va_S (AA g s.heap.size) s.heap s.heap [] := va_S.rf
  have hl : lv_has ls 3 [(0, .ref (g.1 v0)), (1, .ref (g.1 v1))] := hl
  unfold F8_take at hF
  have hb32 : ∀ (a2 : Int32) (M : Mem), F8_take_b32 v0 v1 a2 M = some q → ∀ (H : Heap) (locs : List Loc) (ls : Array Slot), lv_has ls 3 [(0, .ref (g.1 v0)), (2, .int a2)] → va_P g.2.2.1 vwCl (wL g M mm) H → va_S (AA g s.heap.size) s.heap H locs → W p l e { frames := 6, cells := 0, slots := 0, locals := 151 } s m args below meth c H locs 0 0 (MQ below (QI g s.heap.size q.1 (q.2, mm)) args s 0 0 (AA g s.heap.size)) (F0 m 32 ls []) := by
    intro a2 M hF H locs ls hl hP hS
    unfold F8_take_b32 at hF
    refine lv_aload_n hx hb dX8_take_32 rfl (lv_at hl 0 rfl) ?_
    obtain ⟨q4, hq4, hF⟩ := bd_ok hF
    refine xX8_rank Z hP hS h0 hq4 wd_11_22 hl.1 (Nat.le_of_ble_eq_true rfl) ⟨Nat.le_of_ble_eq_true rfl, Nat.le_of_ble_eq_true rfl⟩ dX8_take_33 (fun H locs hP hS => ?_)
    refine lv_iload_n hx hb dX8_take_36 rfl (lv_at hl 1 rfl) ?_
    exact ret_IWC Z hr hlk hP hS hF dX8_take_37
  have hb21 : ∀ (s0 : Int32) (M : Mem), F8_take_b21 v0 v1 s0 M = some q → ∀ (H : Heap) (locs : List Loc) (ls : Array Slot), lv_has ls 3 [(0, .ref (g.1 v0))] → va_P g.2.2.1 vwCl (wL g M mm) H → va_S (AA g s.heap.size) s.heap H locs → W p l e { frames := 6, cells := 0, slots := 0, locals := 151 } s m args below meth c H locs 0 0 (MQ below (QI g s.heap.size q.1 (q.2, mm)) args s 0 0 (AA g s.heap.size)) (F0 m 21 ls [.int s0]) := by
    intro s0 M hF H locs ls hl hP hS
    unfold F8_take_b21 at hF
    refine lv_istore_n (lv' := [(2, .int s0), (0, .ref (g.1 v0))]) hx hb dX8_take_21 rfl hl (Nat.le_of_ble_eq_true rfl) rfl (fun ls hl => ?_)
    refine lv_iload_n hx hb dX8_take_22 rfl (lv_at hl 0 rfl) ?_
    refine lv_iconst (v := (-1 : Int32)) hx hb dX8_take_23 ic_m1 ?_
    refine lv_icmp_eq (tgt := 32) hx hb dX8_take_24 rfl (fun hc => ?_) (fun hc => ?_)
    · have hF := (if_pos hc).symm.trans hF
      exact hb32 _ _ hF _ _ _ (lv_sub hl [1, 0] rfl) hP hS
    · have hF := (if_neg hc).symm.trans hF
      refine lv_aload_n hx hb dX8_take_27 rfl (lv_at hl 1 rfl) ?_
      refine lv_iconst (v := (0 : Int32)) hx hb dX8_take_28 ic_0 ?_
      refine pf8_4 Z hP hS h0 wd_7_23 dX8_take_29 (fun H locs hP hS => ?_)
      exact hb32 _ _ hF _ _ _ (lv_sub hl [1, 0] rfl) hP hS
  refine lv_aload_n hx hb dX8_take_0 rfl (lv_at hl 0 rfl) ?_
  refine lv_iconst (v := (0 : Int32)) hx hb dX8_take_1 ic_0 ?_
  refine pf8_4 Z hP hS h0 wd_7_23 dX8_take_2 (fun H locs hP hS => ?_)
  refine lv_aload_n hx hb dX8_take_5 rfl (lv_at hl 1 rfl) ?_
  obtain ⟨M5, eM5, hF⟩ := lt_ok hF
  have hP : va_P g.2.2.1 vwCl (wL g M5 mm) H := by rw [eM5]; exact hP
  refine gf7_1N Z hP h1 nf_46 dX8_take_6 ?_
  refine lv_if_ne (tgt := 16) hx hb dX8_take_9 rfl (fun hc => ?_) (fun hc => ?_)
  · have hF := (if_neg hc).symm.trans hF
    refine lv_aload_n hx hb dX8_take_16 rfl (lv_at hl 0 rfl) ?_
    refine lv_aload_n hx hb dX8_take_17 rfl (lv_at hl 1 rfl) ?_
    obtain ⟨q6, hq6, hF⟩ := bd_ok hF
    refine xX8_takeAll Z hP hS h0 h1 hq6 wd_8_0 hl.1 (Nat.le_of_ble_eq_true rfl) ⟨Nat.le_of_ble_eq_true rfl, Nat.le_of_ble_eq_true rfl⟩ dX8_take_18 (fun H locs hP hS => ?_)
    exact hb21 _ _ hF _ _ _ (lv_sub hl [0] rfl) hP hS
  · have hF := (if_pos hc).symm.trans hF
    refine lv_iconst (v := (-1 : Int32)) hx hb dX8_take_12 ic_m1 ?_
    refine lv_goto (tgt := 21) hx hb dX8_take_13 rfl ?_
    exact hb21 _ _ hF _ _ _ (lv_sub hl [0] rfl) hP hS
theorem xX8_take {p : Program} {l : Launch} {e : Env} {R : Room} {s : State} {m : MethodId} {args : Array Value} {below : List Frame} {meth : Method} {c : Code} {H : Heap} {locs : List Loc} {Q : State → Prop} {cc : ByteArray} {nL : Nat} {own : String} {g : GG} {pc index : Nat} {ls : Array Slot} {rest : List Value} {mc mm : Mem} (Z : ZZ p s m args c cc nL own g) (hP : va_P g.2.2.1 vwCl (wL g mc mm) H) (hS : va_S (AA g s.heap.size) s.heap H locs) {v0 : Nat} {v1 : Nat} (h0 : isO 8 v0) (h1 : isO 7 v1) {q : Int32 × Mem} (hq : F8_take v0 v1 mc = some q) (hlk : Cond.methodLink own index yX8_take ∈ wsL_law) (hsz : ls.size = nL) (hro : (rest.map fun v => v.category).sum ≤ 8) (hR : 6 + 1 ≤ R.frames ∧ 8 + (3 + 11) + 151 ≤ R.locals) (hdg : decode cc pc = .ok (.invokevirtual index, 3)) (kk : ∀ (H : Heap) (locs : List Loc), va_P g.2.2.1 vwCl (wL g q.2 mm) H → va_S (AA g s.heap.size) s.heap H locs → W p l e R s m args below meth c H locs 0 0 Q (F0 m (pc + 3) ls (.int q.1 :: rest))) : W p l e R s m args below meth c H locs 0 0 Q (F0 m pc ls (.ref (g.1 v1) :: .ref (g.1 v0) :: rest)) :=
  x_VI Z hP hS (kX8_take l g v0 v1 h0 h1 mc mm q hq) (isO_w h0) (ci := 8) (by decide) rfl rfl mf_X8_take mv_X8_take hlk rfl rfl hsz hro hR hdg kk
theorem dX8_become_0 : decode cX8_become 0 = .ok (.aload_n 0, 1) := by decide +kernel
theorem dX8_become_1 : decode cX8_become 1 = .ok (.aload_n 1, 1) := by decide +kernel
theorem dX8_become_2 : decode cX8_become 2 = .ok (.getfield 28, 3) := by decide +kernel
theorem dX8_become_5 : decode cX8_become 5 = .ok (.putfield 28, 3) := by decide +kernel
theorem dX8_become_8 : decode cX8_become 8 = .ok (.iconst 0, 1) := by decide +kernel
theorem dX8_become_9 : decode cX8_become 9 = .ok (.istore_n 2, 1) := by decide +kernel
theorem dX8_become_10 : decode cX8_become 10 = .ok (.iload_n 2, 1) := by decide +kernel
theorem dX8_become_11 : decode cX8_become 11 = .ok (.aload_n 0, 1) := by decide +kernel
theorem dX8_become_12 : decode cX8_become 12 = .ok (.getfield 28, 3) := by decide +kernel
theorem dX8_become_15 : decode cX8_become 15 = .ok (.if_icmp .ge 33, 3) := by decide +kernel
theorem dX8_become_18 : decode cX8_become 18 = .ok (.aload_n 0, 1) := by decide +kernel
theorem dX8_become_19 : decode cX8_become 19 = .ok (.getfield 9, 3) := by decide +kernel
theorem dX8_become_22 : decode cX8_become 22 = .ok (.iload_n 2, 1) := by decide +kernel
theorem dX8_become_23 : decode cX8_become 23 = .ok (.aload_n 1, 1) := by decide +kernel
theorem dX8_become_24 : decode cX8_become 24 = .ok (.getfield 9, 3) := by decide +kernel
theorem dX8_become_27 : decode cX8_become 27 = .ok (.iload_n 2, 1) := by decide +kernel
theorem dX8_become_28 : decode cX8_become 28 = .ok (.iaload, 1) := by decide +kernel
theorem dX8_become_29 : decode cX8_become 29 = .ok (.iastore, 1) := by decide +kernel
theorem dX8_become_30 : decode cX8_become 30 = .ok (.aload_n 0, 1) := by decide +kernel
theorem dX8_become_31 : decode cX8_become 31 = .ok (.getfield 15, 3) := by decide +kernel
theorem dX8_become_34 : decode cX8_become 34 = .ok (.iload_n 2, 1) := by decide +kernel
theorem dX8_become_35 : decode cX8_become 35 = .ok (.aload_n 1, 1) := by decide +kernel
theorem dX8_become_36 : decode cX8_become 36 = .ok (.getfield 15, 3) := by decide +kernel
theorem dX8_become_39 : decode cX8_become 39 = .ok (.iload_n 2, 1) := by decide +kernel
theorem dX8_become_40 : decode cX8_become 40 = .ok (.iaload, 1) := by decide +kernel
theorem dX8_become_41 : decode cX8_become 41 = .ok (.iastore, 1) := by decide +kernel
theorem dX8_become_42 : decode cX8_become 42 = .ok (.iinc 2 1, 3) := by decide +kernel
theorem dX8_become_45 : decode cX8_become 45 = .ok (.goto (-35), 3) := by decide +kernel
theorem dX8_become_48 : decode cX8_become 48 = .ok (.aload_n 0, 1) := by decide +kernel
theorem dX8_become_49 : decode cX8_become 49 = .ok (.invokevirtual 40, 3) := by decide +kernel
theorem dX8_become_52 : decode cX8_become 52 = .ok (.return_, 1) := by decide +kernel
noncomputable def F8_become_b48 (v0 : Nat) (v1 : Nat) (M : Mem) : Option (Mem) :=
  ((F8_rank v0 M).bind (fun q7 => (some q7)))
noncomputable def F8_become_p10 (kh : Int32 → Mem → Option (Mem)) (kx48 : Mem → Option (Mem)) (v0 : Nat) (v1 : Nat) (a2 : Int32) (M : Mem) : Option (Mem) :=
  (if (M v0 4) ≤ a2 then kx48 M else (ck a2 8 (ck a2 8 (lt (mset M (v0 + 1) a2.toNatClampNeg (M (v1 + 1) a2.toNatClampNeg)) (fun M10 => (ck a2 8 (ck a2 8 (kh (a2 + (1 : Int32)) (mset M10 (v0 + 2) a2.toNatClampNeg (M10 (v1 + 2) a2.toNatClampNeg))))))))))
noncomputable def F8_become_h10 (kx48 : Mem → Option (Mem)) (v0 : Nat) (v1 : Nat) : Nat → Int32 → Mem → Option (Mem)
  | 0, _, _ => none
  | n + 1, a2, M => F8_become_p10 (F8_become_h10 kx48 v0 v1 n) kx48 v0 v1 a2 M
noncomputable def F8_become (v0 : Nat) (v1 : Nat) (mc : Mem) : Option (Mem) :=
  (F8_become_h10 (F8_become_b48 v0 v1) v0 v1 FU) (0 : Int32) (mset mc v0 4 (mc v1 4))
set_option maxHeartbeats 4000000 in
set_option maxRecDepth 100000 in
theorem kX8_become (l : Launch) (g : GG) (v0 : Nat) (v1 : Nat) (h0 : isO 8 v0) (h1 : isO 8 v1) (mc mm : Mem) (q : Mem) (hF : F8_become v0 v1 mc = some q) : KV l yX8_become cX8_become 3 1 22 g [.ref (g.1 v0), .ref (g.1 v1)] mc mm (q, mm) := by
  intro sz
  refine x_start (Qc := fun z => QV g z (q, mm)) (by decide +kernel) (Nat.le_of_ble_eq_true rfl) ?_ sz
  intro p e s m args below meth c ls Z hr hlk hP hl
  have hx := Z.1.1
  have hb := Z.1.2.1
  have hown := Z.1.2.2.2.1
  have hts := Z.1.2.2.2.2
  have hS : va_S (AA g s.heap.size) s.heap s.heap [] := va_S.rf
  have hl : lv_has ls 3 [(0, .ref (g.1 v0)), (1, .ref (g.1 v1))] := hl
  unfold F8_become at hF
  have hb48 : ∀  (M : Mem), F8_become_b48 v0 v1 M = some q → ∀ (H : Heap) (locs : List Loc) (ls : Array Slot), lv_has ls 3 [(0, .ref (g.1 v0))] → va_P g.2.2.1 vwCl (wL g M mm) H → va_S (AA g s.heap.size) s.heap H locs → W p l e { frames := 1, cells := 0, slots := 0, locals := 22 } s m args below meth c H locs 0 0 (MQ below (QV g s.heap.size (q, mm)) args s 0 0 (AA g s.heap.size)) (F0 m 48 ls []) := by
    intro M hF H locs ls hl hP hS
    unfold F8_become_b48 at hF
    refine lv_aload_n hx hb dX8_become_48 rfl (lv_at hl 0 rfl) ?_
    obtain ⟨q7, hq7, hF⟩ := bd_ok hF
    refine xX8_rank Z hP hS h0 hq7 wd_11_22 hl.1 (Nat.le_of_ble_eq_true rfl) ⟨Nat.le_of_ble_eq_true rfl, Nat.le_of_ble_eq_true rfl⟩ dX8_become_49 (fun H locs hP hS => ?_)
    exact ret_VWC Z hr hlk hP hS hF dX8_become_52
  have hL10 : ∀ (kx48 : Mem → Option (Mem)), (∀  (M : Mem), kx48 M = some q → ∀ (H : Heap) (locs : List Loc) (ls : Array Slot), lv_has ls 3 [(0, .ref (g.1 v0))] → va_P g.2.2.1 vwCl (wL g M mm) H → va_S (AA g s.heap.size) s.heap H locs → W p l e { frames := 1, cells := 0, slots := 0, locals := 22 } s m args below meth c H locs 0 0 (MQ below (QV g s.heap.size (q, mm)) args s 0 0 (AA g s.heap.size)) (F0 m 48 ls [])) → ∀ n : Nat, ∀ (a2 : Int32) (M : Mem), F8_become_h10 kx48 v0 v1 n a2 M = some q → ∀ (H : Heap) (locs : List Loc) (ls : Array Slot), lv_has ls 3 [(0, .ref (g.1 v0)), (1, .ref (g.1 v1)), (2, .int a2)] → va_P g.2.2.1 vwCl (wL g M mm) H → va_S (AA g s.heap.size) s.heap H locs → W p l e { frames := 1, cells := 0, slots := 0, locals := 22 } s m args below meth c H locs 0 0 (MQ below (QV g s.heap.size (q, mm)) args s 0 0 (AA g s.heap.size)) (F0 m 10 ls []) := by
    intro kx48 hx48 n
    induction n with
    | zero => intro a2 M hF H locs ls hl hP hS; exact absurd hF (fun z => nomatch (show (none : Option _) = some q from z))
    | succ n ih =>
      generalize hkh : F8_become_h10 kx48 v0 v1 n = kh at ih
      intro a2 M hF H locs ls hl hP hS
      have hF : F8_become_p10 (F8_become_h10 kx48 v0 v1 n) kx48 v0 v1 a2 M = some q := hF
      rw [hkh] at hF
      unfold F8_become_p10 at hF
      refine lv_iload_n hx hb dX8_become_10 rfl (lv_at hl 2 rfl) ?_
      refine lv_aload_n hx hb dX8_become_11 rfl (lv_at hl 0 rfl) ?_
      refine gf8_4 Z hP h0 wd_7_23 dX8_become_12 ?_
      refine lv_icmp_ge (tgt := 48) hx hb dX8_become_15 rfl (fun hc => ?_) (fun hc => ?_)
      · have hF := (if_pos hc).symm.trans hF
        exact hx48 _ hF _ _ _ (lv_sub hl [0] rfl) hP hS
      · have hF := (if_neg hc).symm.trans hF
        refine lv_aload_n hx hb dX8_become_18 rfl (lv_at hl 0 rfl) ?_
        refine gf8_0 Z hP h0 wd_3_22 dX8_become_19 ?_
        refine lv_iload_n hx hb dX8_become_22 rfl (lv_at hl 2 rfl) ?_
        refine lv_aload_n hx hb dX8_become_23 rfl (lv_at hl 1 rfl) ?_
        refine gf8_0 Z hP h1 wd_3_22 dX8_become_24 ?_
        refine lv_iload_n hx hb dX8_become_27 rfl (lv_at hl 2 rfl) ?_
        obtain ⟨hi8, hF⟩ := ck_ok hF
        refine ra_ld Z hP (ia_8_0 h1) hi8 dX8_become_28 ?_
        obtain ⟨hi9, hF⟩ := ck_ok hF
        refine ra_st Z hP hS (ia_8_0 h0) hi9 dX8_become_29 (fun H locs hP hS => ?_)
        refine lv_aload_n hx hb dX8_become_30 rfl (lv_at hl 0 rfl) ?_
        refine gf8_1 Z hP h0 wd_3_23 dX8_become_31 ?_
        refine lv_iload_n hx hb dX8_become_34 rfl (lv_at hl 2 rfl) ?_
        refine lv_aload_n hx hb dX8_become_35 rfl (lv_at hl 1 rfl) ?_
        refine gf8_1 Z hP h1 wd_3_23 dX8_become_36 ?_
        refine lv_iload_n hx hb dX8_become_39 rfl (lv_at hl 2 rfl) ?_
        obtain ⟨M10, eM10, hF⟩ := lt_ok hF
        have hP : va_P g.2.2.1 vwCl (wL g M10 mm) H := by rw [eM10]; exact hP
        obtain ⟨hi11, hF⟩ := ck_ok hF
        refine ra_ld Z hP (ia_8_1 h1) hi11 dX8_become_40 ?_
        obtain ⟨hi12, hF⟩ := ck_ok hF
        refine ra_st Z hP hS (ia_8_1 h0) hi12 dX8_become_41 (fun H locs hP hS => ?_)
        refine lv_iinc (lv' := [(2, .int (a2 + (1 : Int32))), (0, .ref (g.1 v0)), (1, .ref (g.1 v1))]) (v := (a2 + (1 : Int32))) hx hb dX8_become_42 hl (k := 2) rfl (io_1 _) (Nat.le_of_ble_eq_true rfl) rfl (fun ls hl => ?_)
        refine lv_goto (tgt := 10) hx hb dX8_become_45 rfl ?_
        exact ih _ _ hF _ _ _ (lv_sub hl [1, 2, 0] rfl) hP hS
  refine lv_aload_n hx hb dX8_become_0 rfl (lv_at hl 0 rfl) ?_
  refine lv_aload_n hx hb dX8_become_1 rfl (lv_at hl 1 rfl) ?_
  refine gf8_4 Z hP h1 wd_7_23 dX8_become_2 ?_
  refine pf8_4 Z hP hS h0 wd_7_23 dX8_become_5 (fun H locs hP hS => ?_)
  refine lv_iconst (v := (0 : Int32)) hx hb dX8_become_8 ic_0 ?_
  refine lv_istore_n (lv' := [(2, .int (0 : Int32)), (0, .ref (g.1 v0)), (1, .ref (g.1 v1))]) hx hb dX8_become_9 rfl hl (Nat.le_of_ble_eq_true rfl) rfl (fun ls hl => ?_)
  exact (hL10 _ hb48 FU) _ _ hF _ _ _ (lv_sub hl [1, 2, 0] rfl) hP hS
theorem xX8_become {p : Program} {l : Launch} {e : Env} {R : Room} {s : State} {m : MethodId} {args : Array Value} {below : List Frame} {meth : Method} {c : Code} {H : Heap} {locs : List Loc} {Q : State → Prop} {cc : ByteArray} {nL : Nat} {own : String} {g : GG} {pc index : Nat} {ls : Array Slot} {rest : List Value} {mc mm : Mem} (Z : ZZ p s m args c cc nL own g) (hP : va_P g.2.2.1 vwCl (wL g mc mm) H) (hS : va_S (AA g s.heap.size) s.heap H locs) {v0 : Nat} {v1 : Nat} (h0 : isO 8 v0) (h1 : isO 8 v1) {q : Mem} (hq : F8_become v0 v1 mc = some q) (hlk : Cond.methodLink own index yX8_become ∈ wsL_law) (hsz : ls.size = nL) (hro : (rest.map fun v => v.category).sum ≤ 8) (hR : 1 + 1 ≤ R.frames ∧ 8 + (3 + 11) + 22 ≤ R.locals) (hdg : decode cc pc = .ok (.invokevirtual index, 3)) (kk : ∀ (H : Heap) (locs : List Loc), va_P g.2.2.1 vwCl (wL g q mm) H → va_S (AA g s.heap.size) s.heap H locs → W p l e R s m args below meth c H locs 0 0 Q (F0 m (pc + 3) ls (rest))) : W p l e R s m args below meth c H locs 0 0 Q (F0 m pc ls (.ref (g.1 v1) :: .ref (g.1 v0) :: rest)) :=
  x_VV Z hP hS (kX8_become l g v0 v1 h0 h1 mc mm q hq) (isO_w h0) (ci := 8) (by decide) rfl rfl mf_X8_become mv_X8_become hlk rfl rfl hsz hro hR hdg kk
theorem dX8_raise_0 : decode cX8_raise 0 = .ok (.iload_n 1, 1) := by decide +kernel
theorem dX8_raise_1 : decode cX8_raise 1 = .ok (.aload_n 0, 1) := by decide +kernel
theorem dX8_raise_2 : decode cX8_raise 2 = .ok (.getfield 28, 3) := by decide +kernel
theorem dX8_raise_5 : decode cX8_raise 5 = .ok (.invokestatic 53, 3) := by decide +kernel
theorem dX8_raise_8 : decode cX8_raise 8 = .ok (.ifCond .eq 10, 3) := by decide +kernel
theorem dX8_raise_11 : decode cX8_raise 11 = .ok (.aload_n 0, 1) := by decide +kernel
theorem dX8_raise_12 : decode cX8_raise 12 = .ok (.getfield 15, 3) := by decide +kernel
theorem dX8_raise_15 : decode cX8_raise 15 = .ok (.iload_n 1, 1) := by decide +kernel
theorem dX8_raise_16 : decode cX8_raise 16 = .ok (.iload_n 2, 1) := by decide +kernel
theorem dX8_raise_17 : decode cX8_raise 17 = .ok (.iastore, 1) := by decide +kernel
theorem dX8_raise_18 : decode cX8_raise 18 = .ok (.aload_n 0, 1) := by decide +kernel
theorem dX8_raise_19 : decode cX8_raise 19 = .ok (.invokevirtual 40, 3) := by decide +kernel
theorem dX8_raise_22 : decode cX8_raise 22 = .ok (.return_, 1) := by decide +kernel
noncomputable def F8_raise_b18 (v0 : Nat) (v1 : Int32) (v2 : Int32) (M : Mem) : Option (Mem) :=
  ((F8_rank v0 M).bind (fun q4 => (some q4)))
noncomputable def F8_raise (v0 : Nat) (v1 : Int32) (v2 : Int32) (mc : Mem) : Option (Mem) :=
  ((F9_in v1 (mc v0 4)).bind (fun q5 => (if q5 = (0 : Int32) then (F8_raise_b18 v0 v1 v2) mc else (ck v1 8 ((F8_raise_b18 v0 v1 v2) (mset mc (v0 + 2) v1.toNatClampNeg v2))))))
set_option maxHeartbeats 4000000 in
set_option maxRecDepth 100000 in
theorem kX8_raise (l : Launch) (g : GG) (v0 : Nat) (v1 : Int32) (v2 : Int32) (h0 : isO 8 v0) (mc mm : Mem) (q : Mem) (hF : F8_raise v0 v1 v2 mc = some q) : KV l yX8_raise cX8_raise 3 1 22 g [.ref (g.1 v0), .int v1, .int v2] mc mm (q, mm) := by
  intro sz
  refine x_start (Qc := fun z => QV g z (q, mm)) (by decide +kernel) (Nat.le_of_ble_eq_true rfl) ?_ sz
  intro p e s m args below meth c ls Z hr hlk hP hl
  have hx := Z.1.1
  have hb := Z.1.2.1
  have hown := Z.1.2.2.2.1
  have hts := Z.1.2.2.2.2
  have hS : va_S (AA g s.heap.size) s.heap s.heap [] := va_S.rf
  have hl : lv_has ls 3 [(0, .ref (g.1 v0)), (1, .int v1), (2, .int v2)] := hl
  unfold F8_raise at hF
  have hb18 : ∀  (M : Mem), F8_raise_b18 v0 v1 v2 M = some q → ∀ (H : Heap) (locs : List Loc) (ls : Array Slot), lv_has ls 3 [(0, .ref (g.1 v0))] → va_P g.2.2.1 vwCl (wL g M mm) H → va_S (AA g s.heap.size) s.heap H locs → W p l e { frames := 1, cells := 0, slots := 0, locals := 22 } s m args below meth c H locs 0 0 (MQ below (QV g s.heap.size (q, mm)) args s 0 0 (AA g s.heap.size)) (F0 m 18 ls []) := by
    intro M hF H locs ls hl hP hS
    unfold F8_raise_b18 at hF
    refine lv_aload_n hx hb dX8_raise_18 rfl (lv_at hl 0 rfl) ?_
    obtain ⟨q4, hq4, hF⟩ := bd_ok hF
    refine xX8_rank Z hP hS h0 hq4 wd_11_22 hl.1 (Nat.le_of_ble_eq_true rfl) ⟨Nat.le_of_ble_eq_true rfl, Nat.le_of_ble_eq_true rfl⟩ dX8_raise_19 (fun H locs hP hS => ?_)
    exact ret_VWC Z hr hlk hP hS hF dX8_raise_22
  refine lv_iload_n hx hb dX8_raise_0 rfl (lv_at hl 1 rfl) ?_
  refine lv_aload_n hx hb dX8_raise_1 rfl (lv_at hl 0 rfl) ?_
  refine gf8_4 Z hP h0 wd_7_23 dX8_raise_2 ?_
  obtain ⟨q5, hq5, hF⟩ := bd_ok hF
  refine xX9_inN Z hP hS hq5 nm_13 hl.1 (Nat.le_of_ble_eq_true rfl) ⟨Nat.le_of_ble_eq_true rfl, Nat.le_of_ble_eq_true rfl⟩ dX8_raise_5 (fun H locs hP hS => ?_)
  refine lv_if_eq (tgt := 18) hx hb dX8_raise_8 rfl (fun hc => ?_) (fun hc => ?_)
  · have hF := (if_pos hc).symm.trans hF
    exact hb18 _ hF _ _ _ (lv_sub hl [0] rfl) hP hS
  · have hF := (if_neg hc).symm.trans hF
    refine lv_aload_n hx hb dX8_raise_11 rfl (lv_at hl 0 rfl) ?_
    refine gf8_1 Z hP h0 wd_3_23 dX8_raise_12 ?_
    refine lv_iload_n hx hb dX8_raise_15 rfl (lv_at hl 1 rfl) ?_
    refine lv_iload_n hx hb dX8_raise_16 rfl (lv_at hl 2 rfl) ?_
    obtain ⟨hi6, hF⟩ := ck_ok hF
    refine ra_st Z hP hS (ia_8_1 h0) hi6 dX8_raise_17 (fun H locs hP hS => ?_)
    exact hb18 _ hF _ _ _ (lv_sub hl [0] rfl) hP hS
theorem xX8_raise {p : Program} {l : Launch} {e : Env} {R : Room} {s : State} {m : MethodId} {args : Array Value} {below : List Frame} {meth : Method} {c : Code} {H : Heap} {locs : List Loc} {Q : State → Prop} {cc : ByteArray} {nL : Nat} {own : String} {g : GG} {pc index : Nat} {ls : Array Slot} {rest : List Value} {mc mm : Mem} (Z : ZZ p s m args c cc nL own g) (hP : va_P g.2.2.1 vwCl (wL g mc mm) H) (hS : va_S (AA g s.heap.size) s.heap H locs) {v0 : Nat} {v1 : Int32} {v2 : Int32} (h0 : isO 8 v0) {q : Mem} (hq : F8_raise v0 v1 v2 mc = some q) (hlk : Cond.methodLink own index yX8_raise ∈ wsL_law) (hsz : ls.size = nL) (hro : (rest.map fun v => v.category).sum ≤ 8) (hR : 1 + 1 ≤ R.frames ∧ 8 + (3 + 11) + 22 ≤ R.locals) (hdg : decode cc pc = .ok (.invokevirtual index, 3)) (kk : ∀ (H : Heap) (locs : List Loc), va_P g.2.2.1 vwCl (wL g q mm) H → va_S (AA g s.heap.size) s.heap H locs → W p l e R s m args below meth c H locs 0 0 Q (F0 m (pc + 3) ls (rest))) : W p l e R s m args below meth c H locs 0 0 Q (F0 m pc ls (.int v2 :: .int v1 :: .ref (g.1 v0) :: rest)) :=
  x_VV Z hP hS (kX8_raise l g v0 v1 v2 h0 mc mm q hq) (isO_w h0) (ci := 8) (by decide) rfl rfl mf_X8_raise mv_X8_raise hlk rfl rfl hsz hro hR hdg kk
theorem dX9_changed_0 : decode cX9_changed 0 = .ok (.aload_n 0, 1) := by decide +kernel
theorem dX9_changed_1 : decode cX9_changed 1 = .ok (.iconst 1, 1) := by decide +kernel
theorem dX9_changed_2 : decode cX9_changed 2 = .ok (.putfield 67, 3) := by decide +kernel
theorem dX9_changed_5 : decode cX9_changed 5 = .ok (.aload_n 0, 1) := by decide +kernel
theorem dX9_changed_6 : decode cX9_changed 6 = .ok (.iconst 1, 1) := by decide +kernel
theorem dX9_changed_7 : decode cX9_changed 7 = .ok (.putfield 98, 3) := by decide +kernel
theorem dX9_changed_10 : decode cX9_changed 10 = .ok (.return_, 1) := by decide +kernel
noncomputable def F9_changed (mc : Mem) : Option (Mem) :=
  some (mset (mset mc 0 9 (1 : Int32)) 0 17 (1 : Int32))
set_option maxHeartbeats 4000000 in
set_option maxRecDepth 100000 in
theorem kX9_changed (l : Launch) (g : GG) (mc mm : Mem) (q : Mem) (hF : F9_changed mc = some q) : KV l yX9_changed cX9_changed 1 0 0 g [.ref (g.1 0)] mc mm (q, mm) := by
  intro sz
  refine x_start (Qc := fun z => QV g z (q, mm)) (by decide +kernel) (Nat.le_of_ble_eq_true rfl) ?_ sz
  intro p e s m args below meth c ls Z hr hlk hP hl
  have hx := Z.1.1
  have hb := Z.1.2.1
  have hown := Z.1.2.2.2.1
  have hts := Z.1.2.2.2.2
  have hS : va_S (AA g s.heap.size) s.heap s.heap [] := va_S.rf
  have hl : lv_has ls 1 [(0, .ref (g.1 0))] := hl
  unfold F9_changed at hF
  refine lv_aload_n hx hb dX9_changed_0 rfl (lv_at hl 0 rfl) ?_
  refine lv_iconst (v := (1 : Int32)) hx hb dX9_changed_1 ic_1 ?_
  refine pf9_9 Z hP hS wd_2_20 (Or.inr rfl) dX9_changed_2 (fun H locs hP hS => ?_)
  refine lv_aload_n hx hb dX9_changed_5 rfl (lv_at hl 0 rfl) ?_
  refine lv_iconst (v := (1 : Int32)) hx hb dX9_changed_6 ic_1 ?_
  refine pf9_17 Z hP hS wd_3_8 (Or.inr rfl) dX9_changed_7 (fun H locs hP hS => ?_)
  exact ret_VWC Z hr hlk hP hS hF dX9_changed_10
theorem xX9_changed {p : Program} {l : Launch} {e : Env} {R : Room} {s : State} {m : MethodId} {args : Array Value} {below : List Frame} {meth : Method} {c : Code} {H : Heap} {locs : List Loc} {Q : State → Prop} {cc : ByteArray} {nL : Nat} {own : String} {g : GG} {pc index : Nat} {ls : Array Slot} {rest : List Value} {mc mm : Mem} (Z : ZZ p s m args c cc nL own g) (hP : va_P g.2.2.1 vwCl (wL g mc mm) H) (hS : va_S (AA g s.heap.size) s.heap H locs) {q : Mem} (hq : F9_changed mc = some q) (hlk : Cond.methodLink own index yX9_changed ∈ wsL_law) (hsz : ls.size = nL) (hro : (rest.map fun v => v.category).sum ≤ 8) (hR : 0 + 1 ≤ R.frames ∧ 8 + (1 + 11) + 0 ≤ R.locals) (hdg : decode cc pc = .ok (.invokevirtual index, 3)) (kk : ∀ (H : Heap) (locs : List Loc), va_P g.2.2.1 vwCl (wL g q mm) H → va_S (AA g s.heap.size) s.heap H locs → W p l e R s m args below meth c H locs 0 0 Q (F0 m (pc + 3) ls (rest))) : W p l e R s m args below meth c H locs 0 0 Q (F0 m pc ls (.ref (g.1 0) :: rest)) :=
  x_VV Z hP hS (kX9_changed l g mc mm q hq) (isO_w ck_0) (ci := 9) (by decide) rfl rfl mf_X9_changed mv_X9_changed hlk rfl rfl hsz hro hR hdg kk
theorem dX9_textChanged_0 : decode cX9_textChanged 0 = .ok (.aload_n 0, 1) := by decide +kernel
theorem dX9_textChanged_1 : decode cX9_textChanged 1 = .ok (.getfield 12, 3) := by decide +kernel
theorem dX9_textChanged_4 : decode cX9_textChanged 4 = .ok (.iload_n 1, 1) := by decide +kernel
theorem dX9_textChanged_5 : decode cX9_textChanged 5 = .ok (.aaload, 1) := by decide +kernel
theorem dX9_textChanged_6 : decode cX9_textChanged 6 = .ok (.iload_n 1, 1) := by decide +kernel
theorem dX9_textChanged_7 : decode cX9_textChanged 7 = .ok (.ifCond .ne 19, 3) := by decide +kernel
theorem dX9_textChanged_10 : decode cX9_textChanged 10 = .ok (.aload_n 0, 1) := by decide +kernel
theorem dX9_textChanged_11 : decode cX9_textChanged 11 = .ok (.getfield 21, 3) := by decide +kernel
theorem dX9_textChanged_14 : decode cX9_textChanged 14 = .ok (.aload_n 0, 1) := by decide +kernel
theorem dX9_textChanged_15 : decode cX9_textChanged 15 = .ok (.getfield 12, 3) := by decide +kernel
theorem dX9_textChanged_18 : decode cX9_textChanged 18 = .ok (.iload_n 1, 1) := by decide +kernel
theorem dX9_textChanged_19 : decode cX9_textChanged 19 = .ok (.aaload, 1) := by decide +kernel
theorem dX9_textChanged_20 : decode cX9_textChanged 20 = .ok (.invokevirtual 377, 3) := by decide +kernel
theorem dX9_textChanged_23 : decode cX9_textChanged 23 = .ok (.goto 16, 3) := by decide +kernel
theorem dX9_textChanged_26 : decode cX9_textChanged 26 = .ok (.aload_n 0, 1) := by decide +kernel
theorem dX9_textChanged_27 : decode cX9_textChanged 27 = .ok (.getfield 28, 3) := by decide +kernel
theorem dX9_textChanged_30 : decode cX9_textChanged 30 = .ok (.aload_n 0, 1) := by decide +kernel
theorem dX9_textChanged_31 : decode cX9_textChanged 31 = .ok (.getfield 12, 3) := by decide +kernel
theorem dX9_textChanged_34 : decode cX9_textChanged 34 = .ok (.iload_n 1, 1) := by decide +kernel
theorem dX9_textChanged_35 : decode cX9_textChanged 35 = .ok (.aaload, 1) := by decide +kernel
theorem dX9_textChanged_36 : decode cX9_textChanged 36 = .ok (.invokevirtual 381, 3) := by decide +kernel
theorem dX9_textChanged_39 : decode cX9_textChanged 39 = .ok (.putfield 116, 3) := by decide +kernel
theorem dX9_textChanged_42 : decode cX9_textChanged 42 = .ok (.aload_n 0, 1) := by decide +kernel
theorem dX9_textChanged_43 : decode cX9_textChanged 43 = .ok (.invokevirtual 157, 3) := by decide +kernel
theorem dX9_textChanged_46 : decode cX9_textChanged 46 = .ok (.return_, 1) := by decide +kernel
noncomputable def F9_textChanged_b39 (v1 : Int32) (s0 : Nat) (s1 : Int32) (M : Mem) : Option (Mem) :=
  (lt (mset M s0 2 s1) (fun M8 => ((F9_changed M8).bind (fun q9 => (some q9)))))
noncomputable def F9_textChanged (v1 : Int32) (mc : Mem) : Option (Mem) :=
  (ck v1 2 (if v1 = (0 : Int32) then (ck v1 2 ((F8_take 6 (2 + 2 * v1.toNatClampNeg) mc).bind (fun q14 => ((F9_textChanged_b39 v1) (2 + 2 * v1.toNatClampNeg) q14.1 q14.2)))) else (ck v1 2 ((F5_take 11 (2 + 2 * v1.toNatClampNeg) mc).bind (fun q12 => ((F9_textChanged_b39 v1) (2 + 2 * v1.toNatClampNeg) q12.1 q12.2))))))
set_option maxHeartbeats 4000000 in
set_option maxRecDepth 100000 in
theorem kX9_textChanged (l : Launch) (g : GG) (v1 : Int32) (mc mm : Mem) (q : Mem) (hF : F9_textChanged v1 mc = some q) : KV l yX9_textChanged cX9_textChanged 2 8 199 g [.ref (g.1 0), .int v1] mc mm (q, mm) := by
  intro sz
  refine x_start (Qc := fun z => QV g z (q, mm)) (by decide +kernel) (Nat.le_of_ble_eq_true rfl) ?_ sz
  intro p e s m args below meth c ls Z hr hlk hP hl
  have hx := Z.1.1
  have hb := Z.1.2.1
  have hown := Z.1.2.2.2.1
  have hts := Z.1.2.2.2.2
  have hS : va_S (AA g s.heap.size) s.heap s.heap [] := va_S.rf
  have hl : lv_has ls 2 [(0, .ref (g.1 0)), (1, .int v1)] := hl
  unfold F9_textChanged at hF
  have hb39 : ∀ (s0 : Nat) (s1 : Int32) (M : Mem), F9_textChanged_b39 v1 s0 s1 M = some q → isO 7 s0 → ∀ (H : Heap) (locs : List Loc) (ls : Array Slot), lv_has ls 2 [(0, .ref (g.1 0))] → va_P g.2.2.1 vwCl (wL g M mm) H → va_S (AA g s.heap.size) s.heap H locs → W p l e { frames := 8, cells := 0, slots := 0, locals := 199 } s m args below meth c H locs 0 0 (MQ below (QV g s.heap.size (q, mm)) args s 0 0 (AA g s.heap.size)) (F0 m 39 ls [.int s1, .ref (g.1 s0)]) := by
    intro s0 s1 M hF h_s0 H locs ls hl hP hS
    unfold F9_textChanged_b39 at hF
    refine pf7_2N Z hP hS h_s0 nf_1 dX9_textChanged_39 (fun H locs hP hS => ?_)
    refine lv_aload_n hx hb dX9_textChanged_42 rfl (lv_at hl 0 rfl) ?_
    obtain ⟨M8, eM8, hF⟩ := lt_ok hF
    have hP : va_P g.2.2.1 vwCl (wL g M8 mm) H := by rw [eM8]; exact hP
    obtain ⟨q9, hq9, hF⟩ := bd_ok hF
    refine xX9_changed Z hP hS hq9 wd_12_20 hl.1 (Nat.le_of_ble_eq_true rfl) ⟨Nat.le_of_ble_eq_true rfl, Nat.le_of_ble_eq_true rfl⟩ dX9_textChanged_43 (fun H locs hP hS => ?_)
    exact ret_VWC Z hr hlk hP hS hF dX9_textChanged_46
  refine lv_aload_n hx hb dX9_textChanged_0 rfl (lv_at hl 0 rfl) ?_
  refine gf9_0 Z hP wd_1_15 dX9_textChanged_1 ?_
  refine lv_iload_n hx hb dX9_textChanged_4 rfl (lv_at hl 1 rfl) ?_
  obtain ⟨hi10, hF⟩ := ck_ok hF
  refine rq_22 Z hP hi10 dX9_textChanged_5 ?_
  refine lv_iload_n hx hb dX9_textChanged_6 rfl (lv_at hl 1 rfl) ?_
  refine lv_if_ne (tgt := 26) hx hb dX9_textChanged_7 rfl (fun hc => ?_) (fun hc => ?_)
  · have hF := (if_neg hc).symm.trans hF
    refine lv_aload_n hx hb dX9_textChanged_26 rfl (lv_at hl 0 rfl) ?_
    refine gf9_2 Z hP wd_1_23 dX9_textChanged_27 ?_
    refine lv_aload_n hx hb dX9_textChanged_30 rfl (lv_at hl 0 rfl) ?_
    refine gf9_0 Z hP wd_1_15 dX9_textChanged_31 ?_
    refine lv_iload_n hx hb dX9_textChanged_34 rfl (lv_at hl 1 rfl) ?_
    obtain ⟨hi11, hF⟩ := ck_ok hF
    refine rq_22 Z hP hi11 dX9_textChanged_35 ?_
    obtain ⟨q12, hq12, hF⟩ := bd_ok hF
    refine xX5_take Z hP hS ck_11 (ir_22 hi11) hq12 wd_12_2 hl.1 (Nat.le_of_ble_eq_true rfl) ⟨Nat.le_of_ble_eq_true rfl, Nat.le_of_ble_eq_true rfl⟩ dX9_textChanged_36 (fun H locs hP hS => ?_)
    exact hb39 _ _ _ hF (ir_22 hi10) _ _ _ (lv_sub hl [0] rfl) hP hS
  · have hF := (if_pos hc).symm.trans hF
    refine lv_aload_n hx hb dX9_textChanged_10 rfl (lv_at hl 0 rfl) ?_
    refine gf9_1 Z hP wd_1_19 dX9_textChanged_11 ?_
    refine lv_aload_n hx hb dX9_textChanged_14 rfl (lv_at hl 0 rfl) ?_
    refine gf9_0 Z hP wd_1_15 dX9_textChanged_15 ?_
    refine lv_iload_n hx hb dX9_textChanged_18 rfl (lv_at hl 1 rfl) ?_
    obtain ⟨hi13, hF⟩ := ck_ok hF
    refine rq_22 Z hP hi13 dX9_textChanged_19 ?_
    obtain ⟨q14, hq14, hF⟩ := bd_ok hF
    refine xX8_take Z hP hS ck_6 (ir_22 hi13) hq14 wd_7_19 hl.1 (Nat.le_of_ble_eq_true rfl) ⟨Nat.le_of_ble_eq_true rfl, Nat.le_of_ble_eq_true rfl⟩ dX9_textChanged_20 (fun H locs hP hS => ?_)
    refine lv_goto (tgt := 39) hx hb dX9_textChanged_23 rfl ?_
    exact hb39 _ _ _ hF (ir_22 hi10) _ _ _ (lv_sub hl [0] rfl) hP hS
theorem xX9_textChanged {p : Program} {l : Launch} {e : Env} {R : Room} {s : State} {m : MethodId} {args : Array Value} {below : List Frame} {meth : Method} {c : Code} {H : Heap} {locs : List Loc} {Q : State → Prop} {cc : ByteArray} {nL : Nat} {own : String} {g : GG} {pc index : Nat} {ls : Array Slot} {rest : List Value} {mc mm : Mem} (Z : ZZ p s m args c cc nL own g) (hP : va_P g.2.2.1 vwCl (wL g mc mm) H) (hS : va_S (AA g s.heap.size) s.heap H locs) {v1 : Int32} {q : Mem} (hq : F9_textChanged v1 mc = some q) (hlk : Cond.methodLink own index yX9_textChanged ∈ wsL_law) (hsz : ls.size = nL) (hro : (rest.map fun v => v.category).sum ≤ 8) (hR : 8 + 1 ≤ R.frames ∧ 8 + (2 + 11) + 199 ≤ R.locals) (hdg : decode cc pc = .ok (.invokevirtual index, 3)) (kk : ∀ (H : Heap) (locs : List Loc), va_P g.2.2.1 vwCl (wL g q mm) H → va_S (AA g s.heap.size) s.heap H locs → W p l e R s m args below meth c H locs 0 0 Q (F0 m (pc + 3) ls (rest))) : W p l e R s m args below meth c H locs 0 0 Q (F0 m pc ls (.int v1 :: .ref (g.1 0) :: rest)) :=
  x_VV Z hP hS (kX9_textChanged l g v1 mc mm q hq) (isO_w ck_0) (ci := 9) (by decide) rfl rfl mf_X9_textChanged mv_X9_textChanged hlk rfl rfl hsz hro hR hdg kk
