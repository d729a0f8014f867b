abbrev b_md_fresh : ByteArray := prog_10_method_6_code
def y_md_fresh : MethodName := ⟨"SpaceBasisModel", "fresh", "(III)V"⟩
def w_md_fresh : List Cond := Cond.code y_md_fresh b_md_fresh 9 none :: vwWS
theorem d_md_fresh_0 : decode b_md_fresh 0 = .ok (.aload_n 0, 1) := by decide +kernel
theorem d_md_fresh_1 : decode b_md_fresh 1 = .ok (.iload_n 1, 1) := by decide +kernel
theorem d_md_fresh_2 : decode b_md_fresh 2 = .ok (.putfield 13, 3) := by decide +kernel
theorem d_md_fresh_5 : decode b_md_fresh 5 = .ok (.aload_n 0, 1) := by decide +kernel
theorem d_md_fresh_6 : decode b_md_fresh 6 = .ok (.iload_n 2, 1) := by decide +kernel
theorem d_md_fresh_7 : decode b_md_fresh 7 = .ok (.putfield 16, 3) := by decide +kernel
theorem d_md_fresh_10 : decode b_md_fresh 10 = .ok (.aload_n 0, 1) := by decide +kernel
theorem d_md_fresh_11 : decode b_md_fresh 11 = .ok (.iload_n 3, 1) := by decide +kernel
theorem d_md_fresh_12 : decode b_md_fresh 12 = .ok (.putfield 19, 3) := by decide +kernel
theorem d_md_fresh_15 : decode b_md_fresh 15 = .ok (.aload_n 0, 1) := by decide +kernel
theorem d_md_fresh_16 : decode b_md_fresh 16 = .ok (.iconst 0, 1) := by decide +kernel
theorem d_md_fresh_17 : decode b_md_fresh 17 = .ok (.putfield 32, 3) := by decide +kernel
theorem d_md_fresh_20 : decode b_md_fresh 20 = .ok (.aload_n 0, 1) := by decide +kernel
theorem d_md_fresh_21 : decode b_md_fresh 21 = .ok (.iconst 0, 1) := by decide +kernel
theorem d_md_fresh_22 : decode b_md_fresh 22 = .ok (.putfield 41, 3) := by decide +kernel
theorem d_md_fresh_25 : decode b_md_fresh 25 = .ok (.aload_n 0, 1) := by decide +kernel
theorem d_md_fresh_26 : decode b_md_fresh 26 = .ok (.iconst 0, 1) := by decide +kernel
theorem d_md_fresh_27 : decode b_md_fresh 27 = .ok (.putfield 22, 3) := by decide +kernel
theorem d_md_fresh_30 : decode b_md_fresh 30 = .ok (.aload_n 0, 1) := by decide +kernel
theorem d_md_fresh_31 : decode b_md_fresh 31 = .ok (.getfield 16, 3) := by decide +kernel
theorem d_md_fresh_34 : decode b_md_fresh 34 = .ok (.invokestatic 79, 3) := by decide +kernel
theorem d_md_fresh_37 : decode b_md_fresh 37 = .ok (.istore 4, 2) := by decide +kernel
theorem d_md_fresh_39 : decode b_md_fresh 39 = .ok (.iconst 0, 1) := by decide +kernel
theorem d_md_fresh_40 : decode b_md_fresh 40 = .ok (.istore 5, 2) := by decide +kernel
theorem d_md_fresh_42 : decode b_md_fresh 42 = .ok (.iload 5, 2) := by decide +kernel
theorem d_md_fresh_44 : decode b_md_fresh 44 = .ok (.iload 4, 2) := by decide +kernel
theorem d_md_fresh_46 : decode b_md_fresh 46 = .ok (.if_icmp .gt 133, 3) := by decide +kernel
theorem d_md_fresh_49 : decode b_md_fresh 49 = .ok (.iconst 0, 1) := by decide +kernel
theorem d_md_fresh_50 : decode b_md_fresh 50 = .ok (.istore 6, 2) := by decide +kernel
theorem d_md_fresh_52 : decode b_md_fresh 52 = .ok (.iload 6, 2) := by decide +kernel
theorem d_md_fresh_54 : decode b_md_fresh 54 = .ok (.aload_n 0, 1) := by decide +kernel
theorem d_md_fresh_55 : decode b_md_fresh 55 = .ok (.getfield 16, 3) := by decide +kernel
theorem d_md_fresh_58 : decode b_md_fresh 58 = .ok (.iconst 1, 1) := by decide +kernel
theorem d_md_fresh_59 : decode b_md_fresh 59 = .ok (.if_icmp .le 8, 3) := by decide +kernel
theorem d_md_fresh_62 : decode b_md_fresh 62 = .ok (.iload 4, 2) := by decide +kernel
theorem d_md_fresh_64 : decode b_md_fresh 64 = .ok (.goto 4, 3) := by decide +kernel
theorem d_md_fresh_67 : decode b_md_fresh 67 = .ok (.iconst 0, 1) := by decide +kernel
theorem d_md_fresh_68 : decode b_md_fresh 68 = .ok (.if_icmp .gt 105, 3) := by decide +kernel
theorem d_md_fresh_71 : decode b_md_fresh 71 = .ok (.iconst 0, 1) := by decide +kernel
theorem d_md_fresh_72 : decode b_md_fresh 72 = .ok (.istore 7, 2) := by decide +kernel
theorem d_md_fresh_74 : decode b_md_fresh 74 = .ok (.iload 7, 2) := by decide +kernel
theorem d_md_fresh_76 : decode b_md_fresh 76 = .ok (.aload_n 0, 1) := by decide +kernel
theorem d_md_fresh_77 : decode b_md_fresh 77 = .ok (.getfield 16, 3) := by decide +kernel
theorem d_md_fresh_80 : decode b_md_fresh 80 = .ok (.iconst 2, 1) := by decide +kernel
theorem d_md_fresh_81 : decode b_md_fresh 81 = .ok (.if_icmp .le 8, 3) := by decide +kernel
theorem d_md_fresh_84 : decode b_md_fresh 84 = .ok (.iload 4, 2) := by decide +kernel
theorem d_md_fresh_86 : decode b_md_fresh 86 = .ok (.goto 4, 3) := by decide +kernel
theorem d_md_fresh_89 : decode b_md_fresh 89 = .ok (.iconst 0, 1) := by decide +kernel
theorem d_md_fresh_90 : decode b_md_fresh 90 = .ok (.if_icmp .gt 77, 3) := by decide +kernel
theorem d_md_fresh_93 : decode b_md_fresh 93 = .ok (.iconst 0, 1) := by decide +kernel
theorem d_md_fresh_94 : decode b_md_fresh 94 = .ok (.istore 8, 2) := by decide +kernel
theorem d_md_fresh_96 : decode b_md_fresh 96 = .ok (.iload 8, 2) := by decide +kernel
theorem d_md_fresh_98 : decode b_md_fresh 98 = .ok (.aload_n 0, 1) := by decide +kernel
theorem d_md_fresh_99 : decode b_md_fresh 99 = .ok (.getfield 16, 3) := by decide +kernel
theorem d_md_fresh_102 : decode b_md_fresh 102 = .ok (.iconst 3, 1) := by decide +kernel
theorem d_md_fresh_103 : decode b_md_fresh 103 = .ok (.if_icmp .le 8, 3) := by decide +kernel
theorem d_md_fresh_106 : decode b_md_fresh 106 = .ok (.iload 4, 2) := by decide +kernel
theorem d_md_fresh_108 : decode b_md_fresh 108 = .ok (.goto 4, 3) := by decide +kernel
theorem d_md_fresh_111 : decode b_md_fresh 111 = .ok (.iconst 0, 1) := by decide +kernel
theorem d_md_fresh_112 : decode b_md_fresh 112 = .ok (.if_icmp .gt 49, 3) := by decide +kernel
theorem d_md_fresh_115 : decode b_md_fresh 115 = .ok (.iload 5, 2) := by decide +kernel
theorem d_md_fresh_117 : decode b_md_fresh 117 = .ok (.iload 6, 2) := by decide +kernel
theorem d_md_fresh_119 : decode b_md_fresh 119 = .ok (.iadd, 1) := by decide +kernel
theorem d_md_fresh_120 : decode b_md_fresh 120 = .ok (.iload 7, 2) := by decide +kernel
theorem d_md_fresh_122 : decode b_md_fresh 122 = .ok (.iadd, 1) := by decide +kernel
theorem d_md_fresh_123 : decode b_md_fresh 123 = .ok (.iload 8, 2) := by decide +kernel
theorem d_md_fresh_125 : decode b_md_fresh 125 = .ok (.iadd, 1) := by decide +kernel
theorem d_md_fresh_126 : decode b_md_fresh 126 = .ok (.iload 4, 2) := by decide +kernel
theorem d_md_fresh_128 : decode b_md_fresh 128 = .ok (.if_icmp .gt 27, 3) := by decide +kernel
theorem d_md_fresh_131 : decode b_md_fresh 131 = .ok (.aload_n 0, 1) := by decide +kernel
theorem d_md_fresh_132 : decode b_md_fresh 132 = .ok (.iload 5, 2) := by decide +kernel
theorem d_md_fresh_134 : decode b_md_fresh 134 = .ok (.bipush 24, 2) := by decide +kernel
theorem d_md_fresh_136 : decode b_md_fresh 136 = .ok (.ishl, 1) := by decide +kernel
theorem d_md_fresh_137 : decode b_md_fresh 137 = .ok (.iload 6, 2) := by decide +kernel
theorem d_md_fresh_139 : decode b_md_fresh 139 = .ok (.bipush 16, 2) := by decide +kernel
theorem d_md_fresh_141 : decode b_md_fresh 141 = .ok (.ishl, 1) := by decide +kernel
theorem d_md_fresh_142 : decode b_md_fresh 142 = .ok (.ior, 1) := by decide +kernel
theorem d_md_fresh_143 : decode b_md_fresh 143 = .ok (.iload 7, 2) := by decide +kernel
theorem d_md_fresh_145 : decode b_md_fresh 145 = .ok (.bipush 8, 2) := by decide +kernel
theorem d_md_fresh_147 : decode b_md_fresh 147 = .ok (.ishl, 1) := by decide +kernel
theorem d_md_fresh_148 : decode b_md_fresh 148 = .ok (.ior, 1) := by decide +kernel
theorem d_md_fresh_149 : decode b_md_fresh 149 = .ok (.iload 8, 2) := by decide +kernel
theorem d_md_fresh_151 : decode b_md_fresh 151 = .ok (.ior, 1) := by decide +kernel
theorem d_md_fresh_152 : decode b_md_fresh 152 = .ok (.invokevirtual 82, 3) := by decide +kernel
theorem d_md_fresh_155 : decode b_md_fresh 155 = .ok (.iinc 8 1, 3) := by decide +kernel
theorem d_md_fresh_158 : decode b_md_fresh 158 = .ok (.goto (-62), 3) := by decide +kernel
theorem d_md_fresh_161 : decode b_md_fresh 161 = .ok (.iinc 7 1, 3) := by decide +kernel
theorem d_md_fresh_164 : decode b_md_fresh 164 = .ok (.goto (-90), 3) := by decide +kernel
theorem d_md_fresh_167 : decode b_md_fresh 167 = .ok (.iinc 6 1, 3) := by decide +kernel
theorem d_md_fresh_170 : decode b_md_fresh 170 = .ok (.goto (-118), 3) := by decide +kernel
theorem d_md_fresh_173 : decode b_md_fresh 173 = .ok (.iinc 5 1, 3) := by decide +kernel
theorem d_md_fresh_176 : decode b_md_fresh 176 = .ok (.goto (-134), 3) := by decide +kernel
theorem d_md_fresh_179 : decode b_md_fresh 179 = .ok (.iconst 0, 1) := by decide +kernel
theorem d_md_fresh_180 : decode b_md_fresh 180 = .ok (.istore 5, 2) := by decide +kernel
theorem d_md_fresh_182 : decode b_md_fresh 182 = .ok (.iload 5, 2) := by decide +kernel
theorem d_md_fresh_184 : decode b_md_fresh 184 = .ok (.aload_n 0, 1) := by decide +kernel
theorem d_md_fresh_185 : decode b_md_fresh 185 = .ok (.getfield 22, 3) := by decide +kernel
theorem d_md_fresh_188 : decode b_md_fresh 188 = .ok (.if_icmp .ge 34, 3) := by decide +kernel
theorem d_md_fresh_191 : decode b_md_fresh 191 = .ok (.aload_n 0, 1) := by decide +kernel
theorem d_md_fresh_192 : decode b_md_fresh 192 = .ok (.getfield 29, 3) := by decide +kernel
theorem d_md_fresh_195 : decode b_md_fresh 195 = .ok (.iload 5, 2) := by decide +kernel
theorem d_md_fresh_197 : decode b_md_fresh 197 = .ok (.aload_n 0, 1) := by decide +kernel
theorem d_md_fresh_198 : decode b_md_fresh 198 = .ok (.getfield 25, 3) := by decide +kernel
theorem d_md_fresh_201 : decode b_md_fresh 201 = .ok (.iload 5, 2) := by decide +kernel
theorem d_md_fresh_203 : decode b_md_fresh 203 = .ok (.iaload, 1) := by decide +kernel
theorem d_md_fresh_204 : decode b_md_fresh 204 = .ok (.invokestatic 75, 3) := by decide +kernel
theorem d_md_fresh_207 : decode b_md_fresh 207 = .ok (.iastore, 1) := by decide +kernel
theorem d_md_fresh_208 : decode b_md_fresh 208 = .ok (.aload_n 0, 1) := by decide +kernel
theorem d_md_fresh_209 : decode b_md_fresh 209 = .ok (.getfield 38, 3) := by decide +kernel
theorem d_md_fresh_212 : decode b_md_fresh 212 = .ok (.iload 5, 2) := by decide +kernel
theorem d_md_fresh_214 : decode b_md_fresh 214 = .ok (.iconst 0, 1) := by decide +kernel
theorem d_md_fresh_215 : decode b_md_fresh 215 = .ok (.iastore, 1) := by decide +kernel
theorem d_md_fresh_216 : decode b_md_fresh 216 = .ok (.iinc 5 1, 3) := by decide +kernel
theorem d_md_fresh_219 : decode b_md_fresh 219 = .ok (.goto (-37), 3) := by decide +kernel
theorem d_md_fresh_222 : decode b_md_fresh 222 = .ok (.return_, 1) := by decide +kernel
/-- SpaceBasisModel.fresh(III)V -/
def vc_md_fresh (md_thrownCode : Int32) (md_p : Int32) (md_n : Int32) (md_order : Int32) (md_monomials : Int32) (md_generators : Int32) (md_found : Int32) (md_upTo : Int32) (md_members : Int32) (md_provedNow : Int32) (md_mono : Nat → Int32) (md_degree : Nat → Int32) (md_hand : Nat → Int32) (p0 : Int32) (p1 : Int32) (p2 : Int32) (Q : Int32 → Int32 → Int32 → Int32 → Int32 → Int32 → (Nat → Int32) → (Nat → Int32) → (Nat → Int32) → Prop) : Prop :=
  vc_md_highest p1 (fun (r_7 : Int32) => ∃ (I42_11 : Int32 → Int32 → (Nat → Int32) → Prop) (mu42_12 : Int32 → Int32 → (Nat → Int32) → Nat), I42_11 0 0 md_mono ∧ ∀ (x5_8 : Int32) (md_monomials_9 : Int32) (md_mono_10 : Nat → Int32), I42_11 x5_8 md_monomials_9 md_mono_10 → ((((r_7 < x5_8) → (∃ (I182_17 : Int32 → (Nat → Int32) → (Nat → Int32) → Prop) (mu182_18 : Int32 → (Nat → Int32) → (Nat → Int32) → Nat), I182_17 0 md_degree md_hand ∧ ∀ (x5_14 : Int32) (md_degree_15 : Nat → Int32) (md_hand_16 : Nat → Int32), I182_17 x5_14 md_degree_15 md_hand_16 → ((((md_monomials_9 ≤ x5_14) → (Q p0 p1 p2 md_monomials_9 0 0 md_mono_10 md_degree_15 md_hand_16)) ∧ ((¬ (md_monomials_9 ≤ x5_14)) → (vp_in x5_14 126 ∧ vc_md_degreeOf (md_mono_10 x5_14.toNatClampNeg) (fun (r_21 : Int32) => vp_in x5_14 126 ∧ ∀ md_degree_23 : Nat → Int32, md_degree_23 = upd md_degree_15 x5_14.toNatClampNeg r_21 → vp_in x5_14 126 ∧ ∀ md_hand_25 : Nat → Int32, md_hand_25 = upd md_hand_16 x5_14.toNatClampNeg 0 → ∀ x5_26 : Int32, x5_26 = x5_14 + 1 → (I182_17 x5_26 md_degree_23 md_hand_25 ∧ mu182_18 x5_26 md_degree_23 md_hand_25 < mu182_18 x5_14 md_degree_15 md_hand_16)))))))) ∧ ((¬ (r_7 < x5_8)) → (∃ (I52_30 : Int32 → Int32 → (Nat → Int32) → Prop) (mu52_31 : Int32 → Int32 → (Nat → Int32) → Nat), I52_30 0 md_monomials_9 md_mono_10 ∧ ∀ (x6_27 : Int32) (md_monomials_28 : Int32) (md_mono_29 : Nat → Int32), I52_30 x6_27 md_monomials_28 md_mono_29 → ((((p1 ≤ 1) → ((((0 < x6_27) → (∀ x5_34 : Int32, x5_34 = x5_8 + 1 → (I42_11 x5_34 md_monomials_28 md_mono_29 ∧ mu42_12 x5_34 md_monomials_28 md_mono_29 < mu42_12 x5_8 md_monomials_9 md_mono_10))) ∧ ((¬ (0 < x6_27)) → (∃ (I74_38 : Int32 → Int32 → (Nat → Int32) → Prop) (mu74_39 : Int32 → Int32 → (Nat → Int32) → Nat), I74_38 0 md_monomials_28 md_mono_29 ∧ ∀ (x7_35 : Int32) (md_monomials_36 : Int32) (md_mono_37 : Nat → Int32), I74_38 x7_35 md_monomials_36 md_mono_37 → ((((p1 ≤ 2) → ((((0 < x7_35) → (∀ x6_42 : Int32, x6_42 = x6_27 + 1 → (I52_30 x6_42 md_monomials_36 md_mono_37 ∧ mu52_31 x6_42 md_monomials_36 md_mono_37 < mu52_31 x6_27 md_monomials_28 md_mono_29))) ∧ ((¬ (0 < x7_35)) → (∃ (I96_46 : Int32 → Int32 → (Nat → Int32) → Prop) (mu96_47 : Int32 → Int32 → (Nat → Int32) → Nat), I96_46 0 md_monomials_36 md_mono_37 ∧ ∀ (x8_43 : Int32) (md_monomials_44 : Int32) (md_mono_45 : Nat → Int32), I96_46 x8_43 md_monomials_44 md_mono_45 → ((((p1 ≤ 3) → ((((0 < x8_43) → (∀ x7_50 : Int32, x7_50 = x7_35 + 1 → (I74_38 x7_50 md_monomials_44 md_mono_45 ∧ mu74_39 x7_50 md_monomials_44 md_mono_45 < mu74_39 x7_35 md_monomials_36 md_mono_37))) ∧ ((¬ (0 < x8_43)) → ((((r_7 < (((x5_8 + x6_27) + x7_35) + x8_43)) → (∀ x8_52 : Int32, x8_52 = x8_43 + 1 → (I96_46 x8_52 md_monomials_44 md_mono_45 ∧ mu96_47 x8_52 md_monomials_44 md_mono_45 < mu96_47 x8_43 md_monomials_44 md_mono_45))) ∧ ((¬ (r_7 < (((x5_8 + x6_27) + x7_35) + x8_43))) → (vc_md_put md_thrownCode p0 p1 p2 md_monomials_44 0 0 md_upTo md_members md_provedNow md_mono_45 ((((x5_8 <<< (24 &&& 31)) ||| (x6_27 <<< (16 &&& 31))) ||| (x7_35 <<< (8 &&& 31))) ||| x8_43) (fun (md_monomials_53 : Int32) (md_mono_54 : Nat → Int32) => ∀ x8_55 : Int32, x8_55 = x8_43 + 1 → (I96_46 x8_55 md_monomials_53 md_mono_54 ∧ mu96_47 x8_55 md_monomials_53 md_mono_54 < mu96_47 x8_43 md_monomials_44 md_mono_45)))))))))) ∧ ((¬ (p1 ≤ 3)) → ((((r_7 < x8_43) → (∀ x7_57 : Int32, x7_57 = x7_35 + 1 → (I74_38 x7_57 md_monomials_44 md_mono_45 ∧ mu74_39 x7_57 md_monomials_44 md_mono_45 < mu74_39 x7_35 md_monomials_36 md_mono_37))) ∧ ((¬ (r_7 < x8_43)) → ((((r_7 < (((x5_8 + x6_27) + x7_35) + x8_43)) → (∀ x8_59 : Int32, x8_59 = x8_43 + 1 → (I96_46 x8_59 md_monomials_44 md_mono_45 ∧ mu96_47 x8_59 md_monomials_44 md_mono_45 < mu96_47 x8_43 md_monomials_44 md_mono_45))) ∧ ((¬ (r_7 < (((x5_8 + x6_27) + x7_35) + x8_43))) → (vc_md_put md_thrownCode p0 p1 p2 md_monomials_44 0 0 md_upTo md_members md_provedNow md_mono_45 ((((x5_8 <<< (24 &&& 31)) ||| (x6_27 <<< (16 &&& 31))) ||| (x7_35 <<< (8 &&& 31))) ||| x8_43) (fun (md_monomials_60 : Int32) (md_mono_61 : Nat → Int32) => ∀ x8_62 : Int32, x8_62 = x8_43 + 1 → (I96_46 x8_62 md_monomials_60 md_mono_61 ∧ mu96_47 x8_62 md_monomials_60 md_mono_61 < mu96_47 x8_43 md_monomials_44 md_mono_45))))))))))))))))) ∧ ((¬ (p1 ≤ 2)) → ((((r_7 < x7_35) → (∀ x6_64 : Int32, x6_64 = x6_27 + 1 → (I52_30 x6_64 md_monomials_36 md_mono_37 ∧ mu52_31 x6_64 md_monomials_36 md_mono_37 < mu52_31 x6_27 md_monomials_28 md_mono_29))) ∧ ((¬ (r_7 < x7_35)) → (∃ (I96_68 : Int32 → Int32 → (Nat → Int32) → Prop) (mu96_69 : Int32 → Int32 → (Nat → Int32) → Nat), I96_68 0 md_monomials_36 md_mono_37 ∧ ∀ (x8_65 : Int32) (md_monomials_66 : Int32) (md_mono_67 : Nat → Int32), I96_68 x8_65 md_monomials_66 md_mono_67 → ((((p1 ≤ 3) → ((((0 < x8_65) → (∀ x7_72 : Int32, x7_72 = x7_35 + 1 → (I74_38 x7_72 md_monomials_66 md_mono_67 ∧ mu74_39 x7_72 md_monomials_66 md_mono_67 < mu74_39 x7_35 md_monomials_36 md_mono_37))) ∧ ((¬ (0 < x8_65)) → ((((r_7 < (((x5_8 + x6_27) + x7_35) + x8_65)) → (∀ x8_74 : Int32, x8_74 = x8_65 + 1 → (I96_68 x8_74 md_monomials_66 md_mono_67 ∧ mu96_69 x8_74 md_monomials_66 md_mono_67 < mu96_69 x8_65 md_monomials_66 md_mono_67))) ∧ ((¬ (r_7 < (((x5_8 + x6_27) + x7_35) + x8_65))) → (vc_md_put md_thrownCode p0 p1 p2 md_monomials_66 0 0 md_upTo md_members md_provedNow md_mono_67 ((((x5_8 <<< (24 &&& 31)) ||| (x6_27 <<< (16 &&& 31))) ||| (x7_35 <<< (8 &&& 31))) ||| x8_65) (fun (md_monomials_75 : Int32) (md_mono_76 : Nat → Int32) => ∀ x8_77 : Int32, x8_77 = x8_65 + 1 → (I96_68 x8_77 md_monomials_75 md_mono_76 ∧ mu96_69 x8_77 md_monomials_75 md_mono_76 < mu96_69 x8_65 md_monomials_66 md_mono_67)))))))))) ∧ ((¬ (p1 ≤ 3)) → ((((r_7 < x8_65) → (∀ x7_79 : Int32, x7_79 = x7_35 + 1 → (I74_38 x7_79 md_monomials_66 md_mono_67 ∧ mu74_39 x7_79 md_monomials_66 md_mono_67 < mu74_39 x7_35 md_monomials_36 md_mono_37))) ∧ ((¬ (r_7 < x8_65)) → ((((r_7 < (((x5_8 + x6_27) + x7_35) + x8_65)) → (∀ x8_81 : Int32, x8_81 = x8_65 + 1 → (I96_68 x8_81 md_monomials_66 md_mono_67 ∧ mu96_69 x8_81 md_monomials_66 md_mono_67 < mu96_69 x8_65 md_monomials_66 md_mono_67))) ∧ ((¬ (r_7 < (((x5_8 + x6_27) + x7_35) + x8_65))) → (vc_md_put md_thrownCode p0 p1 p2 md_monomials_66 0 0 md_upTo md_members md_provedNow md_mono_67 ((((x5_8 <<< (24 &&& 31)) ||| (x6_27 <<< (16 &&& 31))) ||| (x7_35 <<< (8 &&& 31))) ||| x8_65) (fun (md_monomials_82 : Int32) (md_mono_83 : Nat → Int32) => ∀ x8_84 : Int32, x8_84 = x8_65 + 1 → (I96_68 x8_84 md_monomials_82 md_mono_83 ∧ mu96_69 x8_84 md_monomials_82 md_mono_83 < mu96_69 x8_65 md_monomials_66 md_mono_67)))))))))))))))))))))))) ∧ ((¬ (p1 ≤ 1)) → ((((r_7 < x6_27) → (∀ x5_86 : Int32, x5_86 = x5_8 + 1 → (I42_11 x5_86 md_monomials_28 md_mono_29 ∧ mu42_12 x5_86 md_monomials_28 md_mono_29 < mu42_12 x5_8 md_monomials_9 md_mono_10))) ∧ ((¬ (r_7 < x6_27)) → (∃ (I74_90 : Int32 → Int32 → (Nat → Int32) → Prop) (mu74_91 : Int32 → Int32 → (Nat → Int32) → Nat), I74_90 0 md_monomials_28 md_mono_29 ∧ ∀ (x7_87 : Int32) (md_monomials_88 : Int32) (md_mono_89 : Nat → Int32), I74_90 x7_87 md_monomials_88 md_mono_89 → ((((p1 ≤ 2) → ((((0 < x7_87) → (∀ x6_94 : Int32, x6_94 = x6_27 + 1 → (I52_30 x6_94 md_monomials_88 md_mono_89 ∧ mu52_31 x6_94 md_monomials_88 md_mono_89 < mu52_31 x6_27 md_monomials_28 md_mono_29))) ∧ ((¬ (0 < x7_87)) → (∃ (I96_98 : Int32 → Int32 → (Nat → Int32) → Prop) (mu96_99 : Int32 → Int32 → (Nat → Int32) → Nat), I96_98 0 md_monomials_88 md_mono_89 ∧ ∀ (x8_95 : Int32) (md_monomials_96 : Int32) (md_mono_97 : Nat → Int32), I96_98 x8_95 md_monomials_96 md_mono_97 → ((((p1 ≤ 3) → ((((0 < x8_95) → (∀ x7_102 : Int32, x7_102 = x7_87 + 1 → (I74_90 x7_102 md_monomials_96 md_mono_97 ∧ mu74_91 x7_102 md_monomials_96 md_mono_97 < mu74_91 x7_87 md_monomials_88 md_mono_89))) ∧ ((¬ (0 < x8_95)) → ((((r_7 < (((x5_8 + x6_27) + x7_87) + x8_95)) → (∀ x8_104 : Int32, x8_104 = x8_95 + 1 → (I96_98 x8_104 md_monomials_96 md_mono_97 ∧ mu96_99 x8_104 md_monomials_96 md_mono_97 < mu96_99 x8_95 md_monomials_96 md_mono_97))) ∧ ((¬ (r_7 < (((x5_8 + x6_27) + x7_87) + x8_95))) → (vc_md_put md_thrownCode p0 p1 p2 md_monomials_96 0 0 md_upTo md_members md_provedNow md_mono_97 ((((x5_8 <<< (24 &&& 31)) ||| (x6_27 <<< (16 &&& 31))) ||| (x7_87 <<< (8 &&& 31))) ||| x8_95) (fun (md_monomials_105 : Int32) (md_mono_106 : Nat → Int32) => ∀ x8_107 : Int32, x8_107 = x8_95 + 1 → (I96_98 x8_107 md_monomials_105 md_mono_106 ∧ mu96_99 x8_107 md_monomials_105 md_mono_106 < mu96_99 x8_95 md_monomials_96 md_mono_97)))))))))) ∧ ((¬ (p1 ≤ 3)) → ((((r_7 < x8_95) → (∀ x7_109 : Int32, x7_109 = x7_87 + 1 → (I74_90 x7_109 md_monomials_96 md_mono_97 ∧ mu74_91 x7_109 md_monomials_96 md_mono_97 < mu74_91 x7_87 md_monomials_88 md_mono_89))) ∧ ((¬ (r_7 < x8_95)) → ((((r_7 < (((x5_8 + x6_27) + x7_87) + x8_95)) → (∀ x8_111 : Int32, x8_111 = x8_95 + 1 → (I96_98 x8_111 md_monomials_96 md_mono_97 ∧ mu96_99 x8_111 md_monomials_96 md_mono_97 < mu96_99 x8_95 md_monomials_96 md_mono_97))) ∧ ((¬ (r_7 < (((x5_8 + x6_27) + x7_87) + x8_95))) → (vc_md_put md_thrownCode p0 p1 p2 md_monomials_96 0 0 md_upTo md_members md_provedNow md_mono_97 ((((x5_8 <<< (24 &&& 31)) ||| (x6_27 <<< (16 &&& 31))) ||| (x7_87 <<< (8 &&& 31))) ||| x8_95) (fun (md_monomials_112 : Int32) (md_mono_113 : Nat → Int32) => ∀ x8_114 : Int32, x8_114 = x8_95 + 1 → (I96_98 x8_114 md_monomials_112 md_mono_113 ∧ mu96_99 x8_114 md_monomials_112 md_mono_113 < mu96_99 x8_95 md_monomials_96 md_mono_97))))))))))))))))) ∧ ((¬ (p1 ≤ 2)) → ((((r_7 < x7_87) → (∀ x6_116 : Int32, x6_116 = x6_27 + 1 → (I52_30 x6_116 md_monomials_88 md_mono_89 ∧ mu52_31 x6_116 md_monomials_88 md_mono_89 < mu52_31 x6_27 md_monomials_28 md_mono_29))) ∧ ((¬ (r_7 < x7_87)) → (∃ (I96_120 : Int32 → Int32 → (Nat → Int32) → Prop) (mu96_121 : Int32 → Int32 → (Nat → Int32) → Nat), I96_120 0 md_monomials_88 md_mono_89 ∧ ∀ (x8_117 : Int32) (md_monomials_118 : Int32) (md_mono_119 : Nat → Int32), I96_120 x8_117 md_monomials_118 md_mono_119 → ((((p1 ≤ 3) → ((((0 < x8_117) → (∀ x7_124 : Int32, x7_124 = x7_87 + 1 → (I74_90 x7_124 md_monomials_118 md_mono_119 ∧ mu74_91 x7_124 md_monomials_118 md_mono_119 < mu74_91 x7_87 md_monomials_88 md_mono_89))) ∧ ((¬ (0 < x8_117)) → ((((r_7 < (((x5_8 + x6_27) + x7_87) + x8_117)) → (∀ x8_126 : Int32, x8_126 = x8_117 + 1 → (I96_120 x8_126 md_monomials_118 md_mono_119 ∧ mu96_121 x8_126 md_monomials_118 md_mono_119 < mu96_121 x8_117 md_monomials_118 md_mono_119))) ∧ ((¬ (r_7 < (((x5_8 + x6_27) + x7_87) + x8_117))) → (vc_md_put md_thrownCode p0 p1 p2 md_monomials_118 0 0 md_upTo md_members md_provedNow md_mono_119 ((((x5_8 <<< (24 &&& 31)) ||| (x6_27 <<< (16 &&& 31))) ||| (x7_87 <<< (8 &&& 31))) ||| x8_117) (fun (md_monomials_127 : Int32) (md_mono_128 : Nat → Int32) => ∀ x8_129 : Int32, x8_129 = x8_117 + 1 → (I96_120 x8_129 md_monomials_127 md_mono_128 ∧ mu96_121 x8_129 md_monomials_127 md_mono_128 < mu96_121 x8_117 md_monomials_118 md_mono_119)))))))))) ∧ ((¬ (p1 ≤ 3)) → ((((r_7 < x8_117) → (∀ x7_131 : Int32, x7_131 = x7_87 + 1 → (I74_90 x7_131 md_monomials_118 md_mono_119 ∧ mu74_91 x7_131 md_monomials_118 md_mono_119 < mu74_91 x7_87 md_monomials_88 md_mono_89))) ∧ ((¬ (r_7 < x8_117)) → ((((r_7 < (((x5_8 + x6_27) + x7_87) + x8_117)) → (∀ x8_133 : Int32, x8_133 = x8_117 + 1 → (I96_120 x8_133 md_monomials_118 md_mono_119 ∧ mu96_121 x8_133 md_monomials_118 md_mono_119 < mu96_121 x8_117 md_monomials_118 md_mono_119))) ∧ ((¬ (r_7 < (((x5_8 + x6_27) + x7_87) + x8_117))) → (vc_md_put md_thrownCode p0 p1 p2 md_monomials_118 0 0 md_upTo md_members md_provedNow md_mono_119 ((((x5_8 <<< (24 &&& 31)) ||| (x6_27 <<< (16 &&& 31))) ||| (x7_87 <<< (8 &&& 31))) ||| x8_117) (fun (md_monomials_134 : Int32) (md_mono_135 : Nat → Int32) => ∀ x8_136 : Int32, x8_136 = x8_117 + 1 → (I96_120 x8_136 md_monomials_134 md_mono_135 ∧ mu96_121 x8_136 md_monomials_134 md_mono_135 < mu96_121 x8_117 md_monomials_118 md_mono_119)))))))))))))))))))))))))))))))
abbrev at_md_fresh (dC : Nat → ClassId) (dI : Nat → Nat → Nat) (cs : Nat → ClassId) (A : Nat → Prop) (ad : Nat → Nat) (md_thrownCode : Int32) (md_upTo : Int32) (md_members : Int32) (md_provedNow : Int32) (u : Int32 × Int32 × Int32 × Int32 × Int32 × Int32 × (Nat → Int32) × (Nat → Int32) × (Nat → Int32)) (t : State) : Prop := match u with
  | (md_p, md_n, md_order, md_monomials, md_generators, md_found, md_mono, md_degree, md_hand) => va_P (dC, dI) vwCl [((ad 0), .inr (8, [.int md_thrownCode, .int md_p, .int md_n, .int md_order, .int md_monomials, .ref (ad 1), .ref (ad 2), .int md_generators, .ref (ad 3), .ref (ad 4), .int md_found, .int md_upTo, .ref (ad 5), .ref (ad 6), .ref (ad 7), .ref (ad 8), .int md_members, .int md_provedNow])), ((ad 1), .inl (cs 0, 126, .inl md_mono)), ((ad 2), .inl (cs 0, 126, .inl md_degree)), ((ad 4), .inl (cs 0, 126, .inl md_hand))] t.heap ∧ va_D A [((ad 0), .inr (8, [.int md_thrownCode, .int md_p, .int md_n, .int md_order, .int md_monomials, .ref (ad 1), .ref (ad 2), .int md_generators, .ref (ad 3), .ref (ad 4), .int md_found, .int md_upTo, .ref (ad 5), .ref (ad 6), .ref (ad 7), .ref (ad 8), .int md_members, .int md_provedNow])), ((ad 1), .inl (cs 0, 126, .inl md_mono)), ((ad 2), .inl (cs 0, 126, .inl md_degree)), ((ad 4), .inl (cs 0, 126, .inl md_hand))]
set_option maxHeartbeats 4000000 in
set_option maxRecDepth 100000 in
theorem c_md_fresh (l : Launch) (dC : Nat → ClassId) (dI : Nat → Nat → Nat) (cs : Nat → ClassId) (ad : Nat → Nat)  (sz : Nat) (md_thrownCode : Int32) (md_p : Int32) (md_n : Int32) (md_order : Int32) (md_monomials : Int32) (md_generators : Int32) (md_found : Int32) (md_upTo : Int32) (md_members : Int32) (md_provedNow : Int32) (md_mono : Nat → Int32) (md_degree : Nat → Int32) (md_hand : Nat → Int32) (p0 : Int32) (p1 : Int32) (p2 : Int32) (Q : Int32 → Int32 → Int32 → Int32 → Int32 → Int32 → (Nat → Int32) → (Nat → Int32) → (Nat → Int32) → Prop) (hv : vc_md_fresh md_thrownCode md_p md_n md_order md_monomials md_generators md_found md_upTo md_members md_provedNow md_mono md_degree md_hand p0 p1 p2 Q) : Met l y_md_fresh w_md_fresh ({ frames := 4, cells := 0, slots := 0, locals := 87 }) (va_Pc [.ref (ad 0), .int p0, .int p1, .int p2] (fun U => U.heap.size = sz ∧ va_P (dC, dI) vwCl [((ad 0), .inr (8, [.int md_thrownCode, .int md_p, .int md_n, .int md_order, .int md_monomials, .ref (ad 1), .ref (ad 2), .int md_generators, .ref (ad 3), .ref (ad 4), .int md_found, .int md_upTo, .ref (ad 5), .ref (ad 6), .ref (ad 7), .ref (ad 8), .int md_members, .int md_provedNow])), ((ad 1), .inl (cs 0, 126, .inl md_mono)), ((ad 2), .inl (cs 0, 126, .inl md_degree)), ((ad 4), .inl (cs 0, 126, .inl md_hand))] U.heap ∧ vwK dC dI cs U ∧ va_D (fun _ => True) [((ad 0), .inr (8, [.int md_thrownCode, .int md_p, .int md_n, .int md_order, .int md_monomials, .ref (ad 1), .ref (ad 2), .int md_generators, .ref (ad 3), .ref (ad 4), .int md_found, .int md_upTo, .ref (ad 5), .ref (ad 6), .ref (ad 7), .ref (ad 8), .int md_members, .int md_provedNow])), ((ad 1), .inl (cs 0, 126, .inl md_mono)), ((ad 2), .inl (cs 0, 126, .inl md_degree)), ((ad 4), .inl (cs 0, 126, .inl md_hand))])) (va_Qv (fun (u : Int32 × Int32 × Int32 × Int32 × Int32 × Int32 × (Nat → Int32) × (Nat → Int32) × (Nat → Int32)) => Q u.1 u.2.1 u.2.2.1 u.2.2.2.1 u.2.2.2.2.1 u.2.2.2.2.2.1 u.2.2.2.2.2.2.1 u.2.2.2.2.2.2.2.1 u.2.2.2.2.2.2.2.2) (at_md_fresh dC dI cs (va_A [((ad 0), .inr (8, [.int md_thrownCode, .int md_p, .int md_n, .int md_order, .int md_monomials, .ref (ad 1), .ref (ad 2), .int md_generators, .ref (ad 3), .ref (ad 4), .int md_found, .int md_upTo, .ref (ad 5), .ref (ad 6), .ref (ad 7), .ref (ad 8), .int md_members, .int md_provedNow])), ((ad 1), .inl (cs 0, 126, .inl md_mono)), ((ad 2), .inl (cs 0, 126, .inl md_degree)), ((ad 4), .inl (cs 0, 126, .inl md_hand))] sz) ad md_thrownCode md_upTo md_members md_provedNow) (va_A [((ad 0), .inr (8, [.int md_thrownCode, .int md_p, .int md_n, .int md_order, .int md_monomials, .ref (ad 1), .ref (ad 2), .int md_generators, .ref (ad 3), .ref (ad 4), .int md_found, .int md_upTo, .ref (ad 5), .ref (ad 6), .ref (ad 7), .ref (ad 8), .int md_members, .int md_provedNow])), ((ad 1), .inl (cs 0, 126, .inl md_mono)), ((ad 2), .inl (cs 0, 126, .inl md_degree)), ((ad 4), .inl (cs 0, 126, .inl md_hand))] sz)) 0 0 (va_A [((ad 0), .inr (8, [.int md_thrownCode, .int md_p, .int md_n, .int md_order, .int md_monomials, .ref (ad 1), .ref (ad 2), .int md_generators, .ref (ad 3), .ref (ad 4), .int md_found, .int md_upTo, .ref (ad 5), .ref (ad 6), .ref (ad 7), .ref (ad 8), .int md_members, .int md_provedNow])), ((ad 1), .inl (cs 0, 126, .inl md_mono)), ((ad 2), .inl (cs 0, 126, .inl md_degree)), ((ad 4), .inl (cs 0, 126, .inl md_hand))] sz) := by
  unfold vc_md_fresh at hv
  refine Met.ofW (cc := b_md_fresh) (maxL := 9) (ret := none) (by decide) rfl ?_
  intro p e s m args below meth c s₁ B hml hpc
  obtain ⟨rfl, hsz, hP, ⟨hK, hN⟩, hD0⟩ := hpc
  have hx := B.exec
  have hb := B.bytes
  have hr := B.returns
  have hts : ∀ w ∈ vwWS, w.before _ s = true := fun w h => atoms_spec (ws := w_md_fresh) B.pre w (List.mem_cons_of_mem _ h)
  have hown : s.vm.findClass "SpaceBasisModel" = some m.cls := findClass_of_methodNamed B.named
  have hlocks := B.notSynchronized
  subst hsz
  have hD := hD0.self (sz := s.heap.size)
  generalize hAe : va_A [((ad 0), .inr (8, [.int md_thrownCode, .int md_p, .int md_n, .int md_order, .int md_monomials, .ref (ad 1), .ref (ad 2), .int md_generators, .ref (ad 3), .ref (ad 4), .int md_found, .int md_upTo, .ref (ad 5), .ref (ad 6), .ref (ad 7), .ref (ad 8), .int md_members, .int md_provedNow])), ((ad 1), .inl (cs 0, 126, .inl md_mono)), ((ad 2), .inl (cs 0, 126, .inl md_degree)), ((ad 4), .inl (cs 0, 126, .inl md_hand))] s.heap.size = A at hD ⊢
  have hA : ∀ q : Nat, s.heap.size ≤ q → A q := fun q h => by rw [← hAe]; exact Or.inr h
  have hS : va_S A s.heap s.heap [] := va_S.rf
  have hl := lv_entry ([.ref (ad 0), .int p0, .int p1, .int p2]) (n := 9) (Nat.le_of_ble_eq_true rfl)
  rw [lg_entry_eq]
  generalize (lg_sl ([.ref (ad 0), .int p0, .int p1, .int p2]) ++ List.replicate (9 - (lg_sl ([.ref (ad 0), .int p0, .int p1, .int p2])).length) Slot.unset).toArray = ls at hl ⊢
  have hl : lv_has ls 9 [(0, .ref (ad 0)), (1, .int p0), (2, .int p1), (3, .int p2)] := hl
  refine lv_aload_n hx hb d_md_fresh_0 rfl (lv_at hl 0 rfl) ?_
  refine lv_iload_n hx hb d_md_fresh_1 rfl (lv_at hl 1 rfl) ?_
  refine va_put (D := (dC, dI)) (ci := 8) (v := .int p0) (ty := .int) (C := R_md) (T := F_md) (N := 18) hx hb hts in_md t_md t_md_ok n_md hown hK hP hD hS 0 rfl rfl 1 (by decide) (hts _ kw_619) (fun _ h9 => h9) rfl (by decide +kernel) rfl rfl (Nat.le_of_ble_eq_true rfl) d_md_fresh_2 (fun H locs hP hD hS => ?_)
  have hP : va_P (dC, dI) vwCl [((ad 0), .inr (8, [.int md_thrownCode, .int p0, .int md_n, .int md_order, .int md_monomials, .ref (ad 1), .ref (ad 2), .int md_generators, .ref (ad 3), .ref (ad 4), .int md_found, .int md_upTo, .ref (ad 5), .ref (ad 6), .ref (ad 7), .ref (ad 8), .int md_members, .int md_provedNow])), ((ad 1), .inl (cs 0, 126, .inl md_mono)), ((ad 2), .inl (cs 0, 126, .inl md_degree)), ((ad 4), .inl (cs 0, 126, .inl md_hand))] H := hP
  have hD : va_D A [((ad 0), .inr (8, [.int md_thrownCode, .int p0, .int md_n, .int md_order, .int md_monomials, .ref (ad 1), .ref (ad 2), .int md_generators, .ref (ad 3), .ref (ad 4), .int md_found, .int md_upTo, .ref (ad 5), .ref (ad 6), .ref (ad 7), .ref (ad 8), .int md_members, .int md_provedNow])), ((ad 1), .inl (cs 0, 126, .inl md_mono)), ((ad 2), .inl (cs 0, 126, .inl md_degree)), ((ad 4), .inl (cs 0, 126, .inl md_hand))] := hD
  refine lv_aload_n hx hb d_md_fresh_5 rfl (lv_at hl 0 rfl) ?_
  refine lv_iload_n hx hb d_md_fresh_6 rfl (lv_at hl 2 rfl) ?_
  refine va_put (D := (dC, dI)) (ci := 8) (v := .int p1) (ty := .int) (C := R_md) (T := F_md) (N := 18) hx hb hts in_md t_md t_md_ok n_md hown hK hP hD hS 0 rfl rfl 2 (by decide) (hts _ kw_620) (fun _ h9 => h9) rfl (by decide +kernel) rfl rfl (Nat.le_of_ble_eq_true rfl) d_md_fresh_7 (fun H locs hP hD hS => ?_)
  have hP : va_P (dC, dI) vwCl [((ad 0), .inr (8, [.int md_thrownCode, .int p0, .int p1, .int md_order, .int md_monomials, .ref (ad 1), .ref (ad 2), .int md_generators, .ref (ad 3), .ref (ad 4), .int md_found, .int md_upTo, .ref (ad 5), .ref (ad 6), .ref (ad 7), .ref (ad 8), .int md_members, .int md_provedNow])), ((ad 1), .inl (cs 0, 126, .inl md_mono)), ((ad 2), .inl (cs 0, 126, .inl md_degree)), ((ad 4), .inl (cs 0, 126, .inl md_hand))] H := hP
  have hD : va_D A [((ad 0), .inr (8, [.int md_thrownCode, .int p0, .int p1, .int md_order, .int md_monomials, .ref (ad 1), .ref (ad 2), .int md_generators, .ref (ad 3), .ref (ad 4), .int md_found, .int md_upTo, .ref (ad 5), .ref (ad 6), .ref (ad 7), .ref (ad 8), .int md_members, .int md_provedNow])), ((ad 1), .inl (cs 0, 126, .inl md_mono)), ((ad 2), .inl (cs 0, 126, .inl md_degree)), ((ad 4), .inl (cs 0, 126, .inl md_hand))] := hD
  refine lv_aload_n hx hb d_md_fresh_10 rfl (lv_at hl 0 rfl) ?_
  refine lv_iload_n hx hb d_md_fresh_11 rfl (lv_at hl 3 rfl) ?_
  refine va_put (D := (dC, dI)) (ci := 8) (v := .int p2) (ty := .int) (C := R_md) (T := F_md) (N := 18) hx hb hts in_md t_md t_md_ok n_md hown hK hP hD hS 0 rfl rfl 3 (by decide) (hts _ kw_621) (fun _ h9 => h9) rfl (by decide +kernel) rfl rfl (Nat.le_of_ble_eq_true rfl) d_md_fresh_12 (fun H locs hP hD hS => ?_)
  have hP : va_P (dC, dI) vwCl [((ad 0), .inr (8, [.int md_thrownCode, .int p0, .int p1, .int p2, .int md_monomials, .ref (ad 1), .ref (ad 2), .int md_generators, .ref (ad 3), .ref (ad 4), .int md_found, .int md_upTo, .ref (ad 5), .ref (ad 6), .ref (ad 7), .ref (ad 8), .int md_members, .int md_provedNow])), ((ad 1), .inl (cs 0, 126, .inl md_mono)), ((ad 2), .inl (cs 0, 126, .inl md_degree)), ((ad 4), .inl (cs 0, 126, .inl md_hand))] H := hP
  have hD : va_D A [((ad 0), .inr (8, [.int md_thrownCode, .int p0, .int p1, .int p2, .int md_monomials, .ref (ad 1), .ref (ad 2), .int md_generators, .ref (ad 3), .ref (ad 4), .int md_found, .int md_upTo, .ref (ad 5), .ref (ad 6), .ref (ad 7), .ref (ad 8), .int md_members, .int md_provedNow])), ((ad 1), .inl (cs 0, 126, .inl md_mono)), ((ad 2), .inl (cs 0, 126, .inl md_degree)), ((ad 4), .inl (cs 0, 126, .inl md_hand))] := hD
  refine lv_aload_n hx hb d_md_fresh_15 rfl (lv_at hl 0 rfl) ?_
  refine lv_iconst (v := 0) hx hb d_md_fresh_16 (by decide) ?_
  refine va_put (D := (dC, dI)) (ci := 8) (v := .int 0) (ty := .int) (C := R_md) (T := F_md) (N := 18) hx hb hts in_md t_md t_md_ok n_md hown hK hP hD hS 0 rfl rfl 7 (by decide) (hts _ kw_625) (fun _ h9 => h9) rfl (by decide +kernel) rfl rfl (Nat.le_of_ble_eq_true rfl) d_md_fresh_17 (fun H locs hP hD hS => ?_)
  have hP : va_P (dC, dI) vwCl [((ad 0), .inr (8, [.int md_thrownCode, .int p0, .int p1, .int p2, .int md_monomials, .ref (ad 1), .ref (ad 2), .int 0, .ref (ad 3), .ref (ad 4), .int md_found, .int md_upTo, .ref (ad 5), .ref (ad 6), .ref (ad 7), .ref (ad 8), .int md_members, .int md_provedNow])), ((ad 1), .inl (cs 0, 126, .inl md_mono)), ((ad 2), .inl (cs 0, 126, .inl md_degree)), ((ad 4), .inl (cs 0, 126, .inl md_hand))] H := hP
  have hD : va_D A [((ad 0), .inr (8, [.int md_thrownCode, .int p0, .int p1, .int p2, .int md_monomials, .ref (ad 1), .ref (ad 2), .int 0, .ref (ad 3), .ref (ad 4), .int md_found, .int md_upTo, .ref (ad 5), .ref (ad 6), .ref (ad 7), .ref (ad 8), .int md_members, .int md_provedNow])), ((ad 1), .inl (cs 0, 126, .inl md_mono)), ((ad 2), .inl (cs 0, 126, .inl md_degree)), ((ad 4), .inl (cs 0, 126, .inl md_hand))] := hD
  refine lv_aload_n hx hb d_md_fresh_20 rfl (lv_at hl 0 rfl) ?_
  refine lv_iconst (v := 0) hx hb d_md_fresh_21 (by decide) ?_
  refine va_put (D := (dC, dI)) (ci := 8) (v := .int 0) (ty := .boolean) (C := R_md) (T := F_md) (N := 18) hx hb hts in_md t_md t_md_ok n_md hown hK hP hD hS 0 rfl rfl 10 (by decide) (hts _ kw_628) (fun _ h9 => h9) rfl (by decide +kernel) rfl rfl (Nat.le_of_ble_eq_true rfl) d_md_fresh_22 (fun H locs hP hD hS => ?_)
  have hP : va_P (dC, dI) vwCl [((ad 0), .inr (8, [.int md_thrownCode, .int p0, .int p1, .int p2, .int md_monomials, .ref (ad 1), .ref (ad 2), .int 0, .ref (ad 3), .ref (ad 4), .int 0, .int md_upTo, .ref (ad 5), .ref (ad 6), .ref (ad 7), .ref (ad 8), .int md_members, .int md_provedNow])), ((ad 1), .inl (cs 0, 126, .inl md_mono)), ((ad 2), .inl (cs 0, 126, .inl md_degree)), ((ad 4), .inl (cs 0, 126, .inl md_hand))] H := hP
  have hD : va_D A [((ad 0), .inr (8, [.int md_thrownCode, .int p0, .int p1, .int p2, .int md_monomials, .ref (ad 1), .ref (ad 2), .int 0, .ref (ad 3), .ref (ad 4), .int 0, .int md_upTo, .ref (ad 5), .ref (ad 6), .ref (ad 7), .ref (ad 8), .int md_members, .int md_provedNow])), ((ad 1), .inl (cs 0, 126, .inl md_mono)), ((ad 2), .inl (cs 0, 126, .inl md_degree)), ((ad 4), .inl (cs 0, 126, .inl md_hand))] := hD
  refine lv_aload_n hx hb d_md_fresh_25 rfl (lv_at hl 0 rfl) ?_
  refine lv_iconst (v := 0) hx hb d_md_fresh_26 (by decide) ?_
  refine va_put (D := (dC, dI)) (ci := 8) (v := .int 0) (ty := .int) (C := R_md) (T := F_md) (N := 18) hx hb hts in_md t_md t_md_ok n_md hown hK hP hD hS 0 rfl rfl 4 (by decide) (hts _ kw_622) (fun _ h9 => h9) rfl (by decide +kernel) rfl rfl (Nat.le_of_ble_eq_true rfl) d_md_fresh_27 (fun H locs hP hD hS => ?_)
  have hP : va_P (dC, dI) vwCl [((ad 0), .inr (8, [.int md_thrownCode, .int p0, .int p1, .int p2, .int 0, .ref (ad 1), .ref (ad 2), .int 0, .ref (ad 3), .ref (ad 4), .int 0, .int md_upTo, .ref (ad 5), .ref (ad 6), .ref (ad 7), .ref (ad 8), .int md_members, .int md_provedNow])), ((ad 1), .inl (cs 0, 126, .inl md_mono)), ((ad 2), .inl (cs 0, 126, .inl md_degree)), ((ad 4), .inl (cs 0, 126, .inl md_hand))] H := hP
  have hD : va_D A [((ad 0), .inr (8, [.int md_thrownCode, .int p0, .int p1, .int p2, .int 0, .ref (ad 1), .ref (ad 2), .int 0, .ref (ad 3), .ref (ad 4), .int 0, .int md_upTo, .ref (ad 5), .ref (ad 6), .ref (ad 7), .ref (ad 8), .int md_members, .int md_provedNow])), ((ad 1), .inl (cs 0, 126, .inl md_mono)), ((ad 2), .inl (cs 0, 126, .inl md_degree)), ((ad 4), .inl (cs 0, 126, .inl md_hand))] := hD
  refine lv_aload_n hx hb d_md_fresh_30 rfl (lv_at hl 0 rfl) ?_
  refine va_get (D := (dC, dI)) (ci := 8) (v := .int p1) (C := R_md) (T := F_md) (N := 18) hx hb hts in_md hown hK hP 0 rfl rfl 2 (by decide) (hts _ kw_620) (fun _ h9 => h9) rfl d_md_fresh_31 ?_
  have hPc := hP.sub (ws' := []) [] rfl
  have hDc := hD.sub (ws' := []) [] (by decide) rfl
  have hFc := va_free (wc := []) hD hS hA [] rfl
  refine va_calli (va_runS (As := [.int p1]) (rest := []) ⟨hx, hb, hml, hown, hts⟩ (c_md_highest l dC dI cs ad  H.size p1 _ hv) (va_cwS 1 hts (gd_S kw_603 kw_604 kw_41 kw_605) rfl rfl rfl (by decide +kernel) ⟨Nat.le_of_ble_eq_true rfl, Nat.le_of_ble_eq_true rfl⟩) ⟨fun a U g mk q => by obtain ⟨q0, q1, qP, qK, qD⟩ := q; exact ⟨q0, q1, qP, qK.call, qD⟩, fun U hU hW => ⟨rfl, by rw [hU], by rw [hU]; exact hPc, vwK.warm hW ⟨hK, hN⟩, hDc.weaken (fun _ _ _ _ => trivial)⟩⟩ rfl rfl hl.1 rfl (lv_room (Nat.le_of_ble_eq_true rfl)) d_md_fresh_34 ⟨Nat.zero_le _, Nat.zero_le _⟩) hS (fun q _ h => hFc q h) hFc (fun r_7 _u t H1 locs1 ht hvm hw hB hz1 hk1 hS => ?_)
  obtain ⟨hP1, hD1⟩ := hB
  rw [ht] at hP1
  obtain ⟨hP, hD⟩ := va_join (wr := [((ad 0), .inr (8, [.int md_thrownCode, .int p0, .int p1, .int p2, .int 0, .ref (ad 1), .ref (ad 2), .int 0, .ref (ad 3), .ref (ad 4), .int 0, .int md_upTo, .ref (ad 5), .ref (ad 6), .ref (ad 7), .ref (ad 8), .int md_members, .int md_provedNow])), ((ad 1), .inl (cs 0, 126, .inl md_mono)), ((ad 2), .inl (cs 0, 126, .inl md_degree)), ((ad 4), .inl (cs 0, 126, .inl md_hand))]) (w1 := []) hP hD [] [0, 1, 2, 3] rfl rfl (by decide) (by decide) hk1 hFc hP1 hD1
  generalize H1 = H at hP hS ⊢
  generalize locs1 = locs at hS ⊢
  have hP : va_P (dC, dI) vwCl [((ad 0), .inr (8, [.int md_thrownCode, .int p0, .int p1, .int p2, .int 0, .ref (ad 1), .ref (ad 2), .int 0, .ref (ad 3), .ref (ad 4), .int 0, .int md_upTo, .ref (ad 5), .ref (ad 6), .ref (ad 7), .ref (ad 8), .int md_members, .int md_provedNow])), ((ad 1), .inl (cs 0, 126, .inl md_mono)), ((ad 2), .inl (cs 0, 126, .inl md_degree)), ((ad 4), .inl (cs 0, 126, .inl md_hand))] H := hP
  have hD : va_D A [((ad 0), .inr (8, [.int md_thrownCode, .int p0, .int p1, .int p2, .int 0, .ref (ad 1), .ref (ad 2), .int 0, .ref (ad 3), .ref (ad 4), .int 0, .int md_upTo, .ref (ad 5), .ref (ad 6), .ref (ad 7), .ref (ad 8), .int md_members, .int md_provedNow])), ((ad 1), .inl (cs 0, 126, .inl md_mono)), ((ad 2), .inl (cs 0, 126, .inl md_degree)), ((ad 4), .inl (cs 0, 126, .inl md_hand))] := hD
  have hv := hw
  try dsimp only at hv
  refine lv_istore (lv' := [(4, .int r_7), (0, .ref (ad 0)), (1, .int p0), (2, .int p1), (3, .int p2)]) hx hb d_md_fresh_37 hl (by decide) rfl (fun ls hl => ?_)
  refine lv_iconst (v := 0) hx hb d_md_fresh_39 (by decide) ?_
  refine lv_istore (lv' := [(5, .int 0), (4, .int r_7), (0, .ref (ad 0)), (1, .int p0), (2, .int p1), (3, .int p2)]) hx hb d_md_fresh_40 hl (by decide) rfl (fun ls hl => ?_)
  obtain ⟨I42_11, mu42_12, hi0, hv⟩ := hv
  have hP := hP.sub (ws' := [((ad 0), .inr (8, [.int md_thrownCode, .int p0, .int p1, .int p2, .int 0, .ref (ad 1), .ref (ad 2), .int 0, .ref (ad 3), .ref (ad 4), .int 0, .int md_upTo, .ref (ad 5), .ref (ad 6), .ref (ad 7), .ref (ad 8), .int md_members, .int md_provedNow])), ((ad 1), .inl (cs 0, 126, .inl md_mono)), ((ad 2), .inl (cs 0, 126, .inl md_degree)), ((ad 4), .inl (cs 0, 126, .inl md_hand))]) [0, 1, 2, 3] rfl
  have hD := hD.sub (ws' := [((ad 0), .inr (8, [.int md_thrownCode, .int p0, .int p1, .int p2, .int 0, .ref (ad 1), .ref (ad 2), .int 0, .ref (ad 3), .ref (ad 4), .int 0, .int md_upTo, .ref (ad 5), .ref (ad 6), .ref (ad 7), .ref (ad 8), .int md_members, .int md_provedNow])), ((ad 1), .inl (cs 0, 126, .inl md_mono)), ((ad 2), .inl (cs 0, 126, .inl md_degree)), ((ad 4), .inl (cs 0, 126, .inl md_hand))]) [0, 1, 2, 3] (by decide) rfl
  have hl := lv_sub (l' := [(0, .ref (ad 0)), (1, .int p0), (2, .int p1), (3, .int p2), (4, .int r_7), (5, .int 0)]) hl [2, 3, 4, 5, 1, 0] rfl
  have loop42 : ∀ (nn : Nat) (x5_8 : Int32) (md_monomials_9 : Int32) (md_mono_10 : Nat → Int32), mu42_12 x5_8 md_monomials_9 md_mono_10 < nn → I42_11 x5_8 md_monomials_9 md_mono_10 → ∀ (H : Heap) (locs : List Loc) (ls : Array Slot), va_P (dC, dI) vwCl [((ad 0), .inr (8, [.int md_thrownCode, .int p0, .int p1, .int p2, .int md_monomials_9, .ref (ad 1), .ref (ad 2), .int 0, .ref (ad 3), .ref (ad 4), .int 0, .int md_upTo, .ref (ad 5), .ref (ad 6), .ref (ad 7), .ref (ad 8), .int md_members, .int md_provedNow])), ((ad 1), .inl (cs 0, 126, .inl md_mono_10)), ((ad 2), .inl (cs 0, 126, .inl md_degree)), ((ad 4), .inl (cs 0, 126, .inl md_hand))] H → va_D A [((ad 0), .inr (8, [.int md_thrownCode, .int p0, .int p1, .int p2, .int md_monomials_9, .ref (ad 1), .ref (ad 2), .int 0, .ref (ad 3), .ref (ad 4), .int 0, .int md_upTo, .ref (ad 5), .ref (ad 6), .ref (ad 7), .ref (ad 8), .int md_members, .int md_provedNow])), ((ad 1), .inl (cs 0, 126, .inl md_mono_10)), ((ad 2), .inl (cs 0, 126, .inl md_degree)), ((ad 4), .inl (cs 0, 126, .inl md_hand))] → va_S A s.heap H locs → lv_has ls 9 [(0, .ref (ad 0)), (1, .int p0), (2, .int p1), (3, .int p2), (4, .int r_7), (5, .int x5_8)] → W p l e (headSpec w_md_fresh { frames := 4, cells := 0, slots := 0, locals := 87 }).room s m ([.ref (ad 0), .int p0, .int p1, .int p2] : List Value).toArray below meth c H locs 0 0 (MQ below (va_Qv (fun (u : Int32 × Int32 × Int32 × Int32 × Int32 × Int32 × (Nat → Int32) × (Nat → Int32) × (Nat → Int32)) => Q u.1 u.2.1 u.2.2.1 u.2.2.2.1 u.2.2.2.2.1 u.2.2.2.2.2.1 u.2.2.2.2.2.2.1 u.2.2.2.2.2.2.2.1 u.2.2.2.2.2.2.2.2) (at_md_fresh dC dI cs A ad md_thrownCode md_upTo md_members md_provedNow) A) ([.ref (ad 0), .int p0, .int p1, .int p2] : List Value).toArray s 0 0 A) (F0 m 42 ls []) := by
    intro nn
    induction nn with
    | zero => intro x5_8 md_monomials_9 md_mono_10 hlt; exact absurd hlt (Nat.not_lt_zero _)
    | succ nn ih42 =>
      intro x5_8 md_monomials_9 md_mono_10 hlt42 hI H locs ls hP hD hS hl
      have hv := hv x5_8 md_monomials_9 md_mono_10 hI
      refine lv_iload hx hb d_md_fresh_42 (lv_at hl 5 rfl) ?_
      refine lv_iload hx hb d_md_fresh_44 (lv_at hl 4 rfl) ?_
      refine lv_icmp_gt (tgt := 179) hx hb d_md_fresh_46 (by decide) (fun c_13 => ?_) (fun c_13 => ?_)
      · have hv := hv.1 c_13
        refine lv_iconst (v := 0) hx hb d_md_fresh_179 (by decide) ?_
        refine lv_istore (lv' := [(5, .int 0), (0, .ref (ad 0)), (1, .int p0), (2, .int p1), (3, .int p2), (4, .int r_7)]) hx hb d_md_fresh_180 hl (by decide) rfl (fun ls hl => ?_)
        obtain ⟨I182_17, mu182_18, hi0, hv⟩ := hv
        have hP := hP.sub (ws' := [((ad 0), .inr (8, [.int md_thrownCode, .int p0, .int p1, .int p2, .int md_monomials_9, .ref (ad 1), .ref (ad 2), .int 0, .ref (ad 3), .ref (ad 4), .int 0, .int md_upTo, .ref (ad 5), .ref (ad 6), .ref (ad 7), .ref (ad 8), .int md_members, .int md_provedNow])), ((ad 1), .inl (cs 0, 126, .inl md_mono_10)), ((ad 2), .inl (cs 0, 126, .inl md_degree)), ((ad 4), .inl (cs 0, 126, .inl md_hand))]) [0, 1, 2, 3] rfl
        have hD := hD.sub (ws' := [((ad 0), .inr (8, [.int md_thrownCode, .int p0, .int p1, .int p2, .int md_monomials_9, .ref (ad 1), .ref (ad 2), .int 0, .ref (ad 3), .ref (ad 4), .int 0, .int md_upTo, .ref (ad 5), .ref (ad 6), .ref (ad 7), .ref (ad 8), .int md_members, .int md_provedNow])), ((ad 1), .inl (cs 0, 126, .inl md_mono_10)), ((ad 2), .inl (cs 0, 126, .inl md_degree)), ((ad 4), .inl (cs 0, 126, .inl md_hand))]) [0, 1, 2, 3] (by decide) rfl
        have hl := lv_sub (l' := [(0, .ref (ad 0)), (1, .int p0), (2, .int p1), (3, .int p2), (4, .int r_7), (5, .int 0)]) hl [1, 2, 3, 4, 5, 0] rfl
        have loop182 : ∀ (nn : Nat) (x5_14 : Int32) (md_degree_15 : Nat → Int32) (md_hand_16 : Nat → Int32), mu182_18 x5_14 md_degree_15 md_hand_16 < nn → I182_17 x5_14 md_degree_15 md_hand_16 → ∀ (H : Heap) (locs : List Loc) (ls : Array Slot), va_P (dC, dI) vwCl [((ad 0), .inr (8, [.int md_thrownCode, .int p0, .int p1, .int p2, .int md_monomials_9, .ref (ad 1), .ref (ad 2), .int 0, .ref (ad 3), .ref (ad 4), .int 0, .int md_upTo, .ref (ad 5), .ref (ad 6), .ref (ad 7), .ref (ad 8), .int md_members, .int md_provedNow])), ((ad 1), .inl (cs 0, 126, .inl md_mono_10)), ((ad 2), .inl (cs 0, 126, .inl md_degree_15)), ((ad 4), .inl (cs 0, 126, .inl md_hand_16))] H → va_D A [((ad 0), .inr (8, [.int md_thrownCode, .int p0, .int p1, .int p2, .int md_monomials_9, .ref (ad 1), .ref (ad 2), .int 0, .ref (ad 3), .ref (ad 4), .int 0, .int md_upTo, .ref (ad 5), .ref (ad 6), .ref (ad 7), .ref (ad 8), .int md_members, .int md_provedNow])), ((ad 1), .inl (cs 0, 126, .inl md_mono_10)), ((ad 2), .inl (cs 0, 126, .inl md_degree_15)), ((ad 4), .inl (cs 0, 126, .inl md_hand_16))] → va_S A s.heap H locs → lv_has ls 9 [(0, .ref (ad 0)), (1, .int p0), (2, .int p1), (3, .int p2), (4, .int r_7), (5, .int x5_14)] → W p l e (headSpec w_md_fresh { frames := 4, cells := 0, slots := 0, locals := 87 }).room s m ([.ref (ad 0), .int p0, .int p1, .int p2] : List Value).toArray below meth c H locs 0 0 (MQ below (va_Qv (fun (u : Int32 × Int32 × Int32 × Int32 × Int32 × Int32 × (Nat → Int32) × (Nat → Int32) × (Nat → Int32)) => Q u.1 u.2.1 u.2.2.1 u.2.2.2.1 u.2.2.2.2.1 u.2.2.2.2.2.1 u.2.2.2.2.2.2.1 u.2.2.2.2.2.2.2.1 u.2.2.2.2.2.2.2.2) (at_md_fresh dC dI cs A ad md_thrownCode md_upTo md_members md_provedNow) A) ([.ref (ad 0), .int p0, .int p1, .int p2] : List Value).toArray s 0 0 A) (F0 m 182 ls []) := by
          intro nn
          induction nn with
          | zero => intro x5_14 md_degree_15 md_hand_16 hlt; exact absurd hlt (Nat.not_lt_zero _)
          | succ nn ih182 =>
            intro x5_14 md_degree_15 md_hand_16 hlt182 hI H locs ls hP hD hS hl
            have hv := hv x5_14 md_degree_15 md_hand_16 hI
            refine lv_iload hx hb d_md_fresh_182 (lv_at hl 5 rfl) ?_
            refine lv_aload_n hx hb d_md_fresh_184 rfl (lv_at hl 0 rfl) ?_
            refine va_get (D := (dC, dI)) (ci := 8) (v := .int md_monomials_9) (C := R_md) (T := F_md) (N := 18) hx hb hts in_md hown hK hP 0 rfl rfl 4 (by decide) (hts _ kw_622) (fun _ h9 => h9) rfl d_md_fresh_185 ?_
            refine lv_icmp_ge (tgt := 222) hx hb d_md_fresh_188 (by decide) (fun c_19 => ?_) (fun c_19 => ?_)
            · have hv := hv.1 c_19
              have hP9 := hP.sub (ws' := [((ad 0), .inr (8, [.int md_thrownCode, .int p0, .int p1, .int p2, .int md_monomials_9, .ref (ad 1), .ref (ad 2), .int 0, .ref (ad 3), .ref (ad 4), .int 0, .int md_upTo, .ref (ad 5), .ref (ad 6), .ref (ad 7), .ref (ad 8), .int md_members, .int md_provedNow])), ((ad 1), .inl (cs 0, 126, .inl md_mono_10)), ((ad 2), .inl (cs 0, 126, .inl md_degree_15)), ((ad 4), .inl (cs 0, 126, .inl md_hand_16))]) [0, 1, 2, 3] rfl
              have hD9 := hD.sub (ws' := [((ad 0), .inr (8, [.int md_thrownCode, .int p0, .int p1, .int p2, .int md_monomials_9, .ref (ad 1), .ref (ad 2), .int 0, .ref (ad 3), .ref (ad 4), .int 0, .int md_upTo, .ref (ad 5), .ref (ad 6), .ref (ad 7), .ref (ad 8), .int md_members, .int md_provedNow])), ((ad 1), .inl (cs 0, 126, .inl md_mono_10)), ((ad 2), .inl (cs 0, 126, .inl md_degree_15)), ((ad 4), .inl (cs 0, 126, .inl md_hand_16))]) [0, 1, 2, 3] (by decide) rfl
              exact W.vret hx hb hr (fun t ht hW => ⟨⟨(p0, p1, p2, md_monomials_9, 0, 0, md_mono_10, md_degree_15, md_hand_16), rfl, hv, by rw [ht]; exact hP9, hD9⟩, hS.F ht⟩) hS.2.2 d_md_fresh_222
            · have hv := hv.2 c_19
              refine lv_aload_n hx hb d_md_fresh_191 rfl (lv_at hl 0 rfl) ?_
              refine va_get (D := (dC, dI)) (ci := 8) (v := .ref (ad 2)) (C := R_md) (T := F_md) (N := 18) hx hb hts in_md hown hK hP 0 rfl rfl 6 (by decide) (hts _ kw_624) (fun _ h9 => h9) rfl d_md_fresh_192 ?_
              refine lv_iload hx hb d_md_fresh_195 (lv_at hl 5 rfl) ?_
              refine lv_aload_n hx hb d_md_fresh_197 rfl (lv_at hl 0 rfl) ?_
              refine va_get (D := (dC, dI)) (ci := 8) (v := .ref (ad 1)) (C := R_md) (T := F_md) (N := 18) hx hb hts in_md hown hK hP 0 rfl rfl 5 (by decide) (hts _ kw_623) (fun _ h9 => h9) rfl d_md_fresh_198 ?_
              refine lv_iload hx hb d_md_fresh_201 (lv_at hl 5 rfl) ?_
              obtain ⟨hi_20, hv⟩ := hv
              refine va_iald hx hb hK hP 1 0 rfl rfl hi_20 d_md_fresh_203 ?_
              have hPc := hP.sub (ws' := []) [] rfl
              have hDc := hD.sub (ws' := []) [] (by decide) rfl
              have hFc := va_free (wc := []) hD hS hA [] rfl
              refine va_calli (va_runS (As := [.int (md_mono_10 x5_14.toNatClampNeg)]) (rest := [.int x5_14, .ref (ad 2)]) ⟨hx, hb, hml, hown, hts⟩ (c_md_degreeOf l dC dI cs ad  H.size (md_mono_10 x5_14.toNatClampNeg) _ hv) (va_cwS 1 hts (gd_S kw_612 kw_613 kw_41 kw_614) rfl rfl rfl (by decide +kernel) ⟨Nat.le_of_ble_eq_true rfl, Nat.le_of_ble_eq_true rfl⟩) ⟨fun a U g mk q => by obtain ⟨q0, q1, qP, qK, qD⟩ := q; exact ⟨q0, q1, qP, qK.call, qD⟩, fun U hU hW => ⟨rfl, by rw [hU], by rw [hU]; exact hPc, vwK.warm hW ⟨hK, hN⟩, hDc.weaken (fun _ _ _ _ => trivial)⟩⟩ rfl rfl hl.1 rfl (lv_room (Nat.le_of_ble_eq_true rfl)) d_md_fresh_204 ⟨Nat.zero_le _, Nat.zero_le _⟩) hS (fun q _ h => hFc q h) hFc (fun r_21 _u t H1 locs1 ht hvm hw hB hz1 hk1 hS => ?_)
              obtain ⟨hP1, hD1⟩ := hB
              rw [ht] at hP1
              obtain ⟨hP, hD⟩ := va_join (wr := [((ad 0), .inr (8, [.int md_thrownCode, .int p0, .int p1, .int p2, .int md_monomials_9, .ref (ad 1), .ref (ad 2), .int 0, .ref (ad 3), .ref (ad 4), .int 0, .int md_upTo, .ref (ad 5), .ref (ad 6), .ref (ad 7), .ref (ad 8), .int md_members, .int md_provedNow])), ((ad 1), .inl (cs 0, 126, .inl md_mono_10)), ((ad 2), .inl (cs 0, 126, .inl md_degree_15)), ((ad 4), .inl (cs 0, 126, .inl md_hand_16))]) (w1 := []) hP hD [] [0, 1, 2, 3] rfl rfl (by decide) (by decide) hk1 hFc hP1 hD1
              generalize H1 = H at hP hS ⊢
              generalize locs1 = locs at hS ⊢
              have hP : va_P (dC, dI) vwCl [((ad 0), .inr (8, [.int md_thrownCode, .int p0, .int p1, .int p2, .int md_monomials_9, .ref (ad 1), .ref (ad 2), .int 0, .ref (ad 3), .ref (ad 4), .int 0, .int md_upTo, .ref (ad 5), .ref (ad 6), .ref (ad 7), .ref (ad 8), .int md_members, .int md_provedNow])), ((ad 1), .inl (cs 0, 126, .inl md_mono_10)), ((ad 2), .inl (cs 0, 126, .inl md_degree_15)), ((ad 4), .inl (cs 0, 126, .inl md_hand_16))] H := hP
              have hD : va_D A [((ad 0), .inr (8, [.int md_thrownCode, .int p0, .int p1, .int p2, .int md_monomials_9, .ref (ad 1), .ref (ad 2), .int 0, .ref (ad 3), .ref (ad 4), .int 0, .int md_upTo, .ref (ad 5), .ref (ad 6), .ref (ad 7), .ref (ad 8), .int md_members, .int md_provedNow])), ((ad 1), .inl (cs 0, 126, .inl md_mono_10)), ((ad 2), .inl (cs 0, 126, .inl md_degree_15)), ((ad 4), .inl (cs 0, 126, .inl md_hand_16))] := hD
              have hv := hw
              try dsimp only at hv
              obtain ⟨hi_22, hv⟩ := hv
              refine va_iast hx hb hK hP hD hS 2 0 rfl rfl hi_22 d_md_fresh_207 (fun H locs hP hD hS => ?_)
              have hP : va_P (dC, dI) vwCl [((ad 0), .inr (8, [.int md_thrownCode, .int p0, .int p1, .int p2, .int md_monomials_9, .ref (ad 1), .ref (ad 2), .int 0, .ref (ad 3), .ref (ad 4), .int 0, .int md_upTo, .ref (ad 5), .ref (ad 6), .ref (ad 7), .ref (ad 8), .int md_members, .int md_provedNow])), ((ad 1), .inl (cs 0, 126, .inl md_mono_10)), ((ad 2), .inl (cs 0, 126, .inl (upd md_degree_15 x5_14.toNatClampNeg r_21))), ((ad 4), .inl (cs 0, 126, .inl md_hand_16))] H := hP
              have hD : va_D A [((ad 0), .inr (8, [.int md_thrownCode, .int p0, .int p1, .int p2, .int md_monomials_9, .ref (ad 1), .ref (ad 2), .int 0, .ref (ad 3), .ref (ad 4), .int 0, .int md_upTo, .ref (ad 5), .ref (ad 6), .ref (ad 7), .ref (ad 8), .int md_members, .int md_provedNow])), ((ad 1), .inl (cs 0, 126, .inl md_mono_10)), ((ad 2), .inl (cs 0, 126, .inl (upd md_degree_15 x5_14.toNatClampNeg r_21))), ((ad 4), .inl (cs 0, 126, .inl md_hand_16))] := hD
              generalize emd_degree_23 : upd md_degree_15 x5_14.toNatClampNeg r_21 = md_degree_23 at hP hD
              have hv := hv md_degree_23 emd_degree_23.symm
              refine lv_aload_n hx hb d_md_fresh_208 rfl (lv_at hl 0 rfl) ?_
              refine va_get (D := (dC, dI)) (ci := 8) (v := .ref (ad 4)) (C := R_md) (T := F_md) (N := 18) hx hb hts in_md hown hK hP 0 rfl rfl 9 (by decide) (hts _ kw_627) (fun _ h9 => h9) rfl d_md_fresh_209 ?_
              refine lv_iload hx hb d_md_fresh_212 (lv_at hl 5 rfl) ?_
              refine lv_iconst (v := 0) hx hb d_md_fresh_214 (by decide) ?_
              obtain ⟨hi_24, hv⟩ := hv
              refine va_iast hx hb hK hP hD hS 3 0 rfl rfl hi_24 d_md_fresh_215 (fun H locs hP hD hS => ?_)
              have hP : va_P (dC, dI) vwCl [((ad 0), .inr (8, [.int md_thrownCode, .int p0, .int p1, .int p2, .int md_monomials_9, .ref (ad 1), .ref (ad 2), .int 0, .ref (ad 3), .ref (ad 4), .int 0, .int md_upTo, .ref (ad 5), .ref (ad 6), .ref (ad 7), .ref (ad 8), .int md_members, .int md_provedNow])), ((ad 1), .inl (cs 0, 126, .inl md_mono_10)), ((ad 2), .inl (cs 0, 126, .inl md_degree_23)), ((ad 4), .inl (cs 0, 126, .inl (upd md_hand_16 x5_14.toNatClampNeg 0)))] H := hP
              have hD : va_D A [((ad 0), .inr (8, [.int md_thrownCode, .int p0, .int p1, .int p2, .int md_monomials_9, .ref (ad 1), .ref (ad 2), .int 0, .ref (ad 3), .ref (ad 4), .int 0, .int md_upTo, .ref (ad 5), .ref (ad 6), .ref (ad 7), .ref (ad 8), .int md_members, .int md_provedNow])), ((ad 1), .inl (cs 0, 126, .inl md_mono_10)), ((ad 2), .inl (cs 0, 126, .inl md_degree_23)), ((ad 4), .inl (cs 0, 126, .inl (upd md_hand_16 x5_14.toNatClampNeg 0)))] := hD
              generalize emd_hand_25 : upd md_hand_16 x5_14.toNatClampNeg 0 = md_hand_25 at hP hD
              have hv := hv md_hand_25 emd_hand_25.symm
              obtain ⟨x5_26, ex5_26⟩ : ∃ y : Int32, y = x5_14 + 1 := ⟨_, rfl⟩
              have hv := hv x5_26 ex5_26
              refine lv_iinc (v := x5_26) (lv' := [(5, .int x5_26), (0, .ref (ad 0)), (1, .int p0), (2, .int p1), (3, .int p2), (4, .int r_7)]) hx hb d_md_fresh_216 hl (k := 5) rfl (by rw [ex5_26]; rfl) (by decide) rfl (fun ls hl => ?_)
              refine lv_goto (tgt := 182) hx hb d_md_fresh_219 (by decide) ?_
              exact ih182 x5_26 md_degree_23 md_hand_25 (Nat.lt_of_lt_of_le hv.2 (Nat.le_of_lt_succ hlt182)) hv.1 _ _ _ (hP.sub [0, 1, 2, 3] rfl) (hD.sub [0, 1, 2, 3] (by decide) rfl) hS (lv_sub hl [1, 2, 3, 4, 5, 0] rfl)
        exact loop182 _ 0 md_degree md_hand (Nat.lt_succ_self _) hi0 _ _ _ hP hD hS hl
      · have hv := hv.2 c_13
        refine lv_iconst (v := 0) hx hb d_md_fresh_49 (by decide) ?_
        refine lv_istore (lv' := [(6, .int 0), (0, .ref (ad 0)), (1, .int p0), (2, .int p1), (3, .int p2), (4, .int r_7), (5, .int x5_8)]) hx hb d_md_fresh_50 hl (by decide) rfl (fun ls hl => ?_)
        obtain ⟨I52_30, mu52_31, hi0, hv⟩ := hv
        have hP := hP.sub (ws' := [((ad 0), .inr (8, [.int md_thrownCode, .int p0, .int p1, .int p2, .int md_monomials_9, .ref (ad 1), .ref (ad 2), .int 0, .ref (ad 3), .ref (ad 4), .int 0, .int md_upTo, .ref (ad 5), .ref (ad 6), .ref (ad 7), .ref (ad 8), .int md_members, .int md_provedNow])), ((ad 1), .inl (cs 0, 126, .inl md_mono_10)), ((ad 2), .inl (cs 0, 126, .inl md_degree)), ((ad 4), .inl (cs 0, 126, .inl md_hand))]) [0, 1, 2, 3] rfl
        have hD := hD.sub (ws' := [((ad 0), .inr (8, [.int md_thrownCode, .int p0, .int p1, .int p2, .int md_monomials_9, .ref (ad 1), .ref (ad 2), .int 0, .ref (ad 3), .ref (ad 4), .int 0, .int md_upTo, .ref (ad 5), .ref (ad 6), .ref (ad 7), .ref (ad 8), .int md_members, .int md_provedNow])), ((ad 1), .inl (cs 0, 126, .inl md_mono_10)), ((ad 2), .inl (cs 0, 126, .inl md_degree)), ((ad 4), .inl (cs 0, 126, .inl md_hand))]) [0, 1, 2, 3] (by decide) rfl
        have hl := lv_sub (l' := [(0, .ref (ad 0)), (1, .int p0), (2, .int p1), (3, .int p2), (4, .int r_7), (5, .int x5_8), (6, .int 0)]) hl [1, 2, 3, 4, 5, 6, 0] rfl
        have loop52 : ∀ (nn : Nat) (x6_27 : Int32) (md_monomials_28 : Int32) (md_mono_29 : Nat → Int32), mu52_31 x6_27 md_monomials_28 md_mono_29 < nn → I52_30 x6_27 md_monomials_28 md_mono_29 → ∀ (H : Heap) (locs : List Loc) (ls : Array Slot), va_P (dC, dI) vwCl [((ad 0), .inr (8, [.int md_thrownCode, .int p0, .int p1, .int p2, .int md_monomials_28, .ref (ad 1), .ref (ad 2), .int 0, .ref (ad 3), .ref (ad 4), .int 0, .int md_upTo, .ref (ad 5), .ref (ad 6), .ref (ad 7), .ref (ad 8), .int md_members, .int md_provedNow])), ((ad 1), .inl (cs 0, 126, .inl md_mono_29)), ((ad 2), .inl (cs 0, 126, .inl md_degree)), ((ad 4), .inl (cs 0, 126, .inl md_hand))] H → va_D A [((ad 0), .inr (8, [.int md_thrownCode, .int p0, .int p1, .int p2, .int md_monomials_28, .ref (ad 1), .ref (ad 2), .int 0, .ref (ad 3), .ref (ad 4), .int 0, .int md_upTo, .ref (ad 5), .ref (ad 6), .ref (ad 7), .ref (ad 8), .int md_members, .int md_provedNow])), ((ad 1), .inl (cs 0, 126, .inl md_mono_29)), ((ad 2), .inl (cs 0, 126, .inl md_degree)), ((ad 4), .inl (cs 0, 126, .inl md_hand))] → va_S A s.heap H locs → lv_has ls 9 [(0, .ref (ad 0)), (1, .int p0), (2, .int p1), (3, .int p2), (4, .int r_7), (5, .int x5_8), (6, .int x6_27)] → W p l e (headSpec w_md_fresh { frames := 4, cells := 0, slots := 0, locals := 87 }).room s m ([.ref (ad 0), .int p0, .int p1, .int p2] : List Value).toArray below meth c H locs 0 0 (MQ below (va_Qv (fun (u : Int32 × Int32 × Int32 × Int32 × Int32 × Int32 × (Nat → Int32) × (Nat → Int32) × (Nat → Int32)) => Q u.1 u.2.1 u.2.2.1 u.2.2.2.1 u.2.2.2.2.1 u.2.2.2.2.2.1 u.2.2.2.2.2.2.1 u.2.2.2.2.2.2.2.1 u.2.2.2.2.2.2.2.2) (at_md_fresh dC dI cs A ad md_thrownCode md_upTo md_members md_provedNow) A) ([.ref (ad 0), .int p0, .int p1, .int p2] : List Value).toArray s 0 0 A) (F0 m 52 ls []) := by
          intro nn
          induction nn with
          | zero => intro x6_27 md_monomials_28 md_mono_29 hlt; exact absurd hlt (Nat.not_lt_zero _)
          | succ nn ih52 =>
            intro x6_27 md_monomials_28 md_mono_29 hlt52 hI H locs ls hP hD hS hl
            have hv := hv x6_27 md_monomials_28 md_mono_29 hI
            refine lv_iload hx hb d_md_fresh_52 (lv_at hl 6 rfl) ?_
            refine lv_aload_n hx hb d_md_fresh_54 rfl (lv_at hl 0 rfl) ?_
            refine va_get (D := (dC, dI)) (ci := 8) (v := .int p1) (C := R_md) (T := F_md) (N := 18) hx hb hts in_md hown hK hP 0 rfl rfl 2 (by decide) (hts _ kw_620) (fun _ h9 => h9) rfl d_md_fresh_55 ?_
            refine lv_iconst (v := 1) hx hb d_md_fresh_58 (by decide) ?_
            refine lv_icmp_le (tgt := 67) hx hb d_md_fresh_59 (by decide) (fun c_32 => ?_) (fun c_32 => ?_)
            · have hv := hv.1 c_32
              refine lv_iconst (v := 0) hx hb d_md_fresh_67 (by decide) ?_
              refine lv_icmp_gt (tgt := 173) hx hb d_md_fresh_68 (by decide) (fun c_33 => ?_) (fun c_33 => ?_)
              · have hv := hv.1 c_33
                obtain ⟨x5_34, ex5_34⟩ : ∃ y : Int32, y = x5_8 + 1 := ⟨_, rfl⟩
                have hv := hv x5_34 ex5_34
                refine lv_iinc (v := x5_34) (lv' := [(5, .int x5_34), (0, .ref (ad 0)), (1, .int p0), (2, .int p1), (3, .int p2), (4, .int r_7), (6, .int x6_27)]) hx hb d_md_fresh_173 hl (k := 5) rfl (by rw [ex5_34]; rfl) (by decide) rfl (fun ls hl => ?_)
                refine lv_goto (tgt := 42) hx hb d_md_fresh_176 (by decide) ?_
                exact ih42 x5_34 md_monomials_28 md_mono_29 (Nat.lt_of_lt_of_le hv.2 (Nat.le_of_lt_succ hlt42)) hv.1 _ _ _ (hP.sub [0, 1, 2, 3] rfl) (hD.sub [0, 1, 2, 3] (by decide) rfl) hS (lv_sub hl [1, 2, 3, 4, 5, 0] rfl)
              · have hv := hv.2 c_33
                refine lv_iconst (v := 0) hx hb d_md_fresh_71 (by decide) ?_
                refine lv_istore (lv' := [(7, .int 0), (0, .ref (ad 0)), (1, .int p0), (2, .int p1), (3, .int p2), (4, .int r_7), (5, .int x5_8), (6, .int x6_27)]) hx hb d_md_fresh_72 hl (by decide) rfl (fun ls hl => ?_)
                obtain ⟨I74_38, mu74_39, hi0, hv⟩ := hv
                have hP := hP.sub (ws' := [((ad 0), .inr (8, [.int md_thrownCode, .int p0, .int p1, .int p2, .int md_monomials_28, .ref (ad 1), .ref (ad 2), .int 0, .ref (ad 3), .ref (ad 4), .int 0, .int md_upTo, .ref (ad 5), .ref (ad 6), .ref (ad 7), .ref (ad 8), .int md_members, .int md_provedNow])), ((ad 1), .inl (cs 0, 126, .inl md_mono_29)), ((ad 2), .inl (cs 0, 126, .inl md_degree)), ((ad 4), .inl (cs 0, 126, .inl md_hand))]) [0, 1, 2, 3] rfl
                have hD := hD.sub (ws' := [((ad 0), .inr (8, [.int md_thrownCode, .int p0, .int p1, .int p2, .int md_monomials_28, .ref (ad 1), .ref (ad 2), .int 0, .ref (ad 3), .ref (ad 4), .int 0, .int md_upTo, .ref (ad 5), .ref (ad 6), .ref (ad 7), .ref (ad 8), .int md_members, .int md_provedNow])), ((ad 1), .inl (cs 0, 126, .inl md_mono_29)), ((ad 2), .inl (cs 0, 126, .inl md_degree)), ((ad 4), .inl (cs 0, 126, .inl md_hand))]) [0, 1, 2, 3] (by decide) rfl
                have hl := lv_sub (l' := [(0, .ref (ad 0)), (1, .int p0), (2, .int p1), (3, .int p2), (4, .int r_7), (5, .int x5_8), (6, .int x6_27), (7, .int 0)]) hl [1, 2, 3, 4, 5, 6, 7, 0] rfl
                have loop74 : ∀ (nn : Nat) (x7_35 : Int32) (md_monomials_36 : Int32) (md_mono_37 : Nat → Int32), mu74_39 x7_35 md_monomials_36 md_mono_37 < nn → I74_38 x7_35 md_monomials_36 md_mono_37 → ∀ (H : Heap) (locs : List Loc) (ls : Array Slot), va_P (dC, dI) vwCl [((ad 0), .inr (8, [.int md_thrownCode, .int p0, .int p1, .int p2, .int md_monomials_36, .ref (ad 1), .ref (ad 2), .int 0, .ref (ad 3), .ref (ad 4), .int 0, .int md_upTo, .ref (ad 5), .ref (ad 6), .ref (ad 7), .ref (ad 8), .int md_members, .int md_provedNow])), ((ad 1), .inl (cs 0, 126, .inl md_mono_37)), ((ad 2), .inl (cs 0, 126, .inl md_degree)), ((ad 4), .inl (cs 0, 126, .inl md_hand))] H → va_D A [((ad 0), .inr (8, [.int md_thrownCode, .int p0, .int p1, .int p2, .int md_monomials_36, .ref (ad 1), .ref (ad 2), .int 0, .ref (ad 3), .ref (ad 4), .int 0, .int md_upTo, .ref (ad 5), .ref (ad 6), .ref (ad 7), .ref (ad 8), .int md_members, .int md_provedNow])), ((ad 1), .inl (cs 0, 126, .inl md_mono_37)), ((ad 2), .inl (cs 0, 126, .inl md_degree)), ((ad 4), .inl (cs 0, 126, .inl md_hand))] → va_S A s.heap H locs → lv_has ls 9 [(0, .ref (ad 0)), (1, .int p0), (2, .int p1), (3, .int p2), (4, .int r_7), (5, .int x5_8), (6, .int x6_27), (7, .int x7_35)] → W p l e (headSpec w_md_fresh { frames := 4, cells := 0, slots := 0, locals := 87 }).room s m ([.ref (ad 0), .int p0, .int p1, .int p2] : List Value).toArray below meth c H locs 0 0 (MQ below (va_Qv (fun (u : Int32 × Int32 × Int32 × Int32 × Int32 × Int32 × (Nat → Int32) × (Nat → Int32) × (Nat → Int32)) => Q u.1 u.2.1 u.2.2.1 u.2.2.2.1 u.2.2.2.2.1 u.2.2.2.2.2.1 u.2.2.2.2.2.2.1 u.2.2.2.2.2.2.2.1 u.2.2.2.2.2.2.2.2) (at_md_fresh dC dI cs A ad md_thrownCode md_upTo md_members md_provedNow) A) ([.ref (ad 0), .int p0, .int p1, .int p2] : List Value).toArray s 0 0 A) (F0 m 74 ls []) := by
                  intro nn
                  induction nn with
                  | zero => intro x7_35 md_monomials_36 md_mono_37 hlt; exact absurd hlt (Nat.not_lt_zero _)
                  | succ nn ih74 =>
                    intro x7_35 md_monomials_36 md_mono_37 hlt74 hI H locs ls hP hD hS hl
                    have hv := hv x7_35 md_monomials_36 md_mono_37 hI
                    refine lv_iload hx hb d_md_fresh_74 (lv_at hl 7 rfl) ?_
                    refine lv_aload_n hx hb d_md_fresh_76 rfl (lv_at hl 0 rfl) ?_
                    refine va_get (D := (dC, dI)) (ci := 8) (v := .int p1) (C := R_md) (T := F_md) (N := 18) hx hb hts in_md hown hK hP 0 rfl rfl 2 (by decide) (hts _ kw_620) (fun _ h9 => h9) rfl d_md_fresh_77 ?_
                    refine lv_iconst (v := 2) hx hb d_md_fresh_80 (by decide) ?_
                    refine lv_icmp_le (tgt := 89) hx hb d_md_fresh_81 (by decide) (fun c_40 => ?_) (fun c_40 => ?_)
                    · have hv := hv.1 c_40
                      refine lv_iconst (v := 0) hx hb d_md_fresh_89 (by decide) ?_
                      refine lv_icmp_gt (tgt := 167) hx hb d_md_fresh_90 (by decide) (fun c_41 => ?_) (fun c_41 => ?_)
                      · have hv := hv.1 c_41
                        obtain ⟨x6_42, ex6_42⟩ : ∃ y : Int32, y = x6_27 + 1 := ⟨_, rfl⟩
                        have hv := hv x6_42 ex6_42
                        refine lv_iinc (v := x6_42) (lv' := [(6, .int x6_42), (0, .ref (ad 0)), (1, .int p0), (2, .int p1), (3, .int p2), (4, .int r_7), (5, .int x5_8), (7, .int x7_35)]) hx hb d_md_fresh_167 hl (k := 6) rfl (by rw [ex6_42]; rfl) (by decide) rfl (fun ls hl => ?_)
                        refine lv_goto (tgt := 52) hx hb d_md_fresh_170 (by decide) ?_
                        exact ih52 x6_42 md_monomials_36 md_mono_37 (Nat.lt_of_lt_of_le hv.2 (Nat.le_of_lt_succ hlt52)) hv.1 _ _ _ (hP.sub [0, 1, 2, 3] rfl) (hD.sub [0, 1, 2, 3] (by decide) rfl) hS (lv_sub hl [1, 2, 3, 4, 5, 6, 0] rfl)
                      · have hv := hv.2 c_41
                        refine lv_iconst (v := 0) hx hb d_md_fresh_93 (by decide) ?_
                        refine lv_istore (lv' := [(8, .int 0), (0, .ref (ad 0)), (1, .int p0), (2, .int p1), (3, .int p2), (4, .int r_7), (5, .int x5_8), (6, .int x6_27), (7, .int x7_35)]) hx hb d_md_fresh_94 hl (by decide) rfl (fun ls hl => ?_)
                        obtain ⟨I96_46, mu96_47, hi0, hv⟩ := hv
                        have hP := hP.sub (ws' := [((ad 0), .inr (8, [.int md_thrownCode, .int p0, .int p1, .int p2, .int md_monomials_36, .ref (ad 1), .ref (ad 2), .int 0, .ref (ad 3), .ref (ad 4), .int 0, .int md_upTo, .ref (ad 5), .ref (ad 6), .ref (ad 7), .ref (ad 8), .int md_members, .int md_provedNow])), ((ad 1), .inl (cs 0, 126, .inl md_mono_37)), ((ad 2), .inl (cs 0, 126, .inl md_degree)), ((ad 4), .inl (cs 0, 126, .inl md_hand))]) [0, 1, 2, 3] rfl
                        have hD := hD.sub (ws' := [((ad 0), .inr (8, [.int md_thrownCode, .int p0, .int p1, .int p2, .int md_monomials_36, .ref (ad 1), .ref (ad 2), .int 0, .ref (ad 3), .ref (ad 4), .int 0, .int md_upTo, .ref (ad 5), .ref (ad 6), .ref (ad 7), .ref (ad 8), .int md_members, .int md_provedNow])), ((ad 1), .inl (cs 0, 126, .inl md_mono_37)), ((ad 2), .inl (cs 0, 126, .inl md_degree)), ((ad 4), .inl (cs 0, 126, .inl md_hand))]) [0, 1, 2, 3] (by decide) rfl
                        have hl := lv_sub (l' := [(0, .ref (ad 0)), (1, .int p0), (2, .int p1), (3, .int p2), (4, .int r_7), (5, .int x5_8), (6, .int x6_27), (7, .int x7_35), (8, .int 0)]) hl [1, 2, 3, 4, 5, 6, 7, 8, 0] rfl
                        have loop96 : ∀ (nn : Nat) (x8_43 : Int32) (md_monomials_44 : Int32) (md_mono_45 : Nat → Int32), mu96_47 x8_43 md_monomials_44 md_mono_45 < nn → I96_46 x8_43 md_monomials_44 md_mono_45 → ∀ (H : Heap) (locs : List Loc) (ls : Array Slot), va_P (dC, dI) vwCl [((ad 0), .inr (8, [.int md_thrownCode, .int p0, .int p1, .int p2, .int md_monomials_44, .ref (ad 1), .ref (ad 2), .int 0, .ref (ad 3), .ref (ad 4), .int 0, .int md_upTo, .ref (ad 5), .ref (ad 6), .ref (ad 7), .ref (ad 8), .int md_members, .int md_provedNow])), ((ad 1), .inl (cs 0, 126, .inl md_mono_45)), ((ad 2), .inl (cs 0, 126, .inl md_degree)), ((ad 4), .inl (cs 0, 126, .inl md_hand))] H → va_D A [((ad 0), .inr (8, [.int md_thrownCode, .int p0, .int p1, .int p2, .int md_monomials_44, .ref (ad 1), .ref (ad 2), .int 0, .ref (ad 3), .ref (ad 4), .int 0, .int md_upTo, .ref (ad 5), .ref (ad 6), .ref (ad 7), .ref (ad 8), .int md_members, .int md_provedNow])), ((ad 1), .inl (cs 0, 126, .inl md_mono_45)), ((ad 2), .inl (cs 0, 126, .inl md_degree)), ((ad 4), .inl (cs 0, 126, .inl md_hand))] → va_S A s.heap H locs → lv_has ls 9 [(0, .ref (ad 0)), (1, .int p0), (2, .int p1), (3, .int p2), (4, .int r_7), (5, .int x5_8), (6, .int x6_27), (7, .int x7_35), (8, .int x8_43)] → W p l e (headSpec w_md_fresh { frames := 4, cells := 0, slots := 0, locals := 87 }).room s m ([.ref (ad 0), .int p0, .int p1, .int p2] : List Value).toArray below meth c H locs 0 0 (MQ below (va_Qv (fun (u : Int32 × Int32 × Int32 × Int32 × Int32 × Int32 × (Nat → Int32) × (Nat → Int32) × (Nat → Int32)) => Q u.1 u.2.1 u.2.2.1 u.2.2.2.1 u.2.2.2.2.1 u.2.2.2.2.2.1 u.2.2.2.2.2.2.1 u.2.2.2.2.2.2.2.1 u.2.2.2.2.2.2.2.2) (at_md_fresh dC dI cs A ad md_thrownCode md_upTo md_members md_provedNow) A) ([.ref (ad 0), .int p0, .int p1, .int p2] : List Value).toArray s 0 0 A) (F0 m 96 ls []) := by
                          intro nn
                          induction nn with
                          | zero => intro x8_43 md_monomials_44 md_mono_45 hlt; exact absurd hlt (Nat.not_lt_zero _)
                          | succ nn ih96 =>
                            intro x8_43 md_monomials_44 md_mono_45 hlt96 hI H locs ls hP hD hS hl
                            have hv := hv x8_43 md_monomials_44 md_mono_45 hI
                            refine lv_iload hx hb d_md_fresh_96 (lv_at hl 8 rfl) ?_
                            refine lv_aload_n hx hb d_md_fresh_98 rfl (lv_at hl 0 rfl) ?_
                            refine va_get (D := (dC, dI)) (ci := 8) (v := .int p1) (C := R_md) (T := F_md) (N := 18) hx hb hts in_md hown hK hP 0 rfl rfl 2 (by decide) (hts _ kw_620) (fun _ h9 => h9) rfl d_md_fresh_99 ?_
                            refine lv_iconst (v := 3) hx hb d_md_fresh_102 (by decide) ?_
                            refine lv_icmp_le (tgt := 111) hx hb d_md_fresh_103 (by decide) (fun c_48 => ?_) (fun c_48 => ?_)
                            · have hv := hv.1 c_48
                              refine lv_iconst (v := 0) hx hb d_md_fresh_111 (by decide) ?_
                              refine lv_icmp_gt (tgt := 161) hx hb d_md_fresh_112 (by decide) (fun c_49 => ?_) (fun c_49 => ?_)
                              · have hv := hv.1 c_49
                                obtain ⟨x7_50, ex7_50⟩ : ∃ y : Int32, y = x7_35 + 1 := ⟨_, rfl⟩
                                have hv := hv x7_50 ex7_50
                                refine lv_iinc (v := x7_50) (lv' := [(7, .int x7_50), (0, .ref (ad 0)), (1, .int p0), (2, .int p1), (3, .int p2), (4, .int r_7), (5, .int x5_8), (6, .int x6_27), (8, .int x8_43)]) hx hb d_md_fresh_161 hl (k := 7) rfl (by rw [ex7_50]; rfl) (by decide) rfl (fun ls hl => ?_)
                                refine lv_goto (tgt := 74) hx hb d_md_fresh_164 (by decide) ?_
                                exact ih74 x7_50 md_monomials_44 md_mono_45 (Nat.lt_of_lt_of_le hv.2 (Nat.le_of_lt_succ hlt74)) hv.1 _ _ _ (hP.sub [0, 1, 2, 3] rfl) (hD.sub [0, 1, 2, 3] (by decide) rfl) hS (lv_sub hl [1, 2, 3, 4, 5, 6, 7, 0] rfl)
                              · have hv := hv.2 c_49
                                refine lv_iload hx hb d_md_fresh_115 (lv_at hl 5 rfl) ?_
                                refine lv_iload hx hb d_md_fresh_117 (lv_at hl 6 rfl) ?_
                                refine lv_iadd hx hb d_md_fresh_119 ?_
                                refine lv_iload hx hb d_md_fresh_120 (lv_at hl 7 rfl) ?_
                                refine lv_iadd hx hb d_md_fresh_122 ?_
                                refine lv_iload hx hb d_md_fresh_123 (lv_at hl 8 rfl) ?_
                                refine lv_iadd hx hb d_md_fresh_125 ?_
                                refine lv_iload hx hb d_md_fresh_126 (lv_at hl 4 rfl) ?_
                                refine lv_icmp_gt (tgt := 155) hx hb d_md_fresh_128 (by decide) (fun c_51 => ?_) (fun c_51 => ?_)
                                · have hv := hv.1 c_51
                                  obtain ⟨x8_52, ex8_52⟩ : ∃ y : Int32, y = x8_43 + 1 := ⟨_, rfl⟩
                                  have hv := hv x8_52 ex8_52
                                  refine lv_iinc (v := x8_52) (lv' := [(8, .int x8_52), (0, .ref (ad 0)), (1, .int p0), (2, .int p1), (3, .int p2), (4, .int r_7), (5, .int x5_8), (6, .int x6_27), (7, .int x7_35)]) hx hb d_md_fresh_155 hl (k := 8) rfl (by rw [ex8_52]; rfl) (by decide) rfl (fun ls hl => ?_)
                                  refine lv_goto (tgt := 96) hx hb d_md_fresh_158 (by decide) ?_
                                  exact ih96 x8_52 md_monomials_44 md_mono_45 (Nat.lt_of_lt_of_le hv.2 (Nat.le_of_lt_succ hlt96)) hv.1 _ _ _ (hP.sub [0, 1, 2, 3] rfl) (hD.sub [0, 1, 2, 3] (by decide) rfl) hS (lv_sub hl [1, 2, 3, 4, 5, 6, 7, 8, 0] rfl)
                                · have hv := hv.2 c_51
                                  refine lv_aload_n hx hb d_md_fresh_131 rfl (lv_at hl 0 rfl) ?_
                                  refine lv_iload hx hb d_md_fresh_132 (lv_at hl 5 rfl) ?_
                                  refine lv_bipush (v := 24) hx hb d_md_fresh_134 (by decide) ?_
                                  refine lv_ishl hx hb d_md_fresh_136 ?_
                                  refine lv_iload hx hb d_md_fresh_137 (lv_at hl 6 rfl) ?_
                                  refine lv_bipush (v := 16) hx hb d_md_fresh_139 (by decide) ?_
                                  refine lv_ishl hx hb d_md_fresh_141 ?_
                                  refine lv_ior hx hb d_md_fresh_142 ?_
                                  refine lv_iload hx hb d_md_fresh_143 (lv_at hl 7 rfl) ?_
                                  refine lv_bipush (v := 8) hx hb d_md_fresh_145 (by decide) ?_
                                  refine lv_ishl hx hb d_md_fresh_147 ?_
                                  refine lv_ior hx hb d_md_fresh_148 ?_
                                  refine lv_iload hx hb d_md_fresh_149 (lv_at hl 8 rfl) ?_
                                  refine lv_ior hx hb d_md_fresh_151 ?_
                                  have hPc := hP.sub (ws' := [((ad 0), .inr (8, [.int md_thrownCode, .int p0, .int p1, .int p2, .int md_monomials_44, .ref (ad 1), .ref (ad 2), .int 0, .ref (ad 3), .ref (ad 4), .int 0, .int md_upTo, .ref (ad 5), .ref (ad 6), .ref (ad 7), .ref (ad 8), .int md_members, .int md_provedNow])), ((ad 1), .inl (cs 0, 126, .inl md_mono_45))]) [0, 1] rfl
                                  have hDc := hD.sub (ws' := [((ad 0), .inr (8, [.int md_thrownCode, .int p0, .int p1, .int p2, .int md_monomials_44, .ref (ad 1), .ref (ad 2), .int 0, .ref (ad 3), .ref (ad 4), .int 0, .int md_upTo, .ref (ad 5), .ref (ad 6), .ref (ad 7), .ref (ad 8), .int md_members, .int md_provedNow])), ((ad 1), .inl (cs 0, 126, .inl md_mono_45))]) [0, 1] (by decide) rfl
                                  have hFc := va_free (wc := [((ad 0), .inr (8, [.int md_thrownCode, .int p0, .int p1, .int p2, .int md_monomials_44, .ref (ad 1), .ref (ad 2), .int 0, .ref (ad 3), .ref (ad 4), .int 0, .int md_upTo, .ref (ad 5), .ref (ad 6), .ref (ad 7), .ref (ad 8), .int md_members, .int md_provedNow])), ((ad 1), .inl (cs 0, 126, .inl md_mono_45))]) hD hS hA [0, 1] rfl
                                  refine va_callv (va_runV (As := [.int ((((x5_8 <<< (24 &&& 31)) ||| (x6_27 <<< (16 &&& 31))) ||| (x7_35 <<< (8 &&& 31))) ||| x8_43)]) (rest := []) ⟨hx, hb, hml, hown, hts⟩ (c_md_put l dC dI cs ad  H.size md_thrownCode p0 p1 p2 md_monomials_44 0 0 md_upTo md_members md_provedNow md_mono_45 ((((x5_8 <<< (24 &&& 31)) ||| (x6_27 <<< (16 &&& 31))) ||| (x7_35 <<< (8 &&& 31))) ||| x8_43) _ hv) (cwV 1 hts (gd_V kw_606 kw_607 kw_18 kw_41 kw_608) rfl rfl rfl (by decide +kernel) ⟨Nat.le_of_ble_eq_true rfl, Nat.le_of_ble_eq_true rfl⟩) ⟨fun a U g mk q => by obtain ⟨q0, q1, qP, qK, qD⟩ := q; exact ⟨q0, q1, qP, qK.call, qD⟩, va_recv hK hPc (ci := 8) (q0 := 0) rfl rfl, fun U hU hW => ⟨rfl, by rw [hU], by rw [hU]; exact hPc, vwK.warm hW ⟨hK, hN⟩, hDc.weaken (fun _ _ _ _ => trivial)⟩⟩ rfl rfl hl.1 rfl (lv_room (Nat.le_of_ble_eq_true rfl)) d_md_fresh_152 ⟨Nat.zero_le _, Nat.zero_le _⟩) hS (fun q _ h => hFc q h) hFc (fun u t H1 locs1 ht hvm hw hB hz1 hk1 hS => ?_)
                                  obtain ⟨md_monomials_53, md_mono_54⟩ := u
                                  obtain ⟨hP1, hD1⟩ := hB
                                  rw [ht] at hP1
                                  obtain ⟨hP, hD⟩ := va_join (wr := [((ad 2), .inl (cs 0, 126, .inl md_degree)), ((ad 4), .inl (cs 0, 126, .inl md_hand))]) (w1 := [((ad 0), .inr (8, [.int md_thrownCode, .int p0, .int p1, .int p2, .int md_monomials_53, .ref (ad 1), .ref (ad 2), .int 0, .ref (ad 3), .ref (ad 4), .int 0, .int md_upTo, .ref (ad 5), .ref (ad 6), .ref (ad 7), .ref (ad 8), .int md_members, .int md_provedNow])), ((ad 1), .inl (cs 0, 126, .inl md_mono_54))]) hP hD [0, 1] [2, 3] rfl rfl (by decide) (by decide) hk1 hFc hP1 hD1
                                  generalize H1 = H at hP hS ⊢
                                  generalize locs1 = locs at hS ⊢
                                  have hP : va_P (dC, dI) vwCl [((ad 2), .inl (cs 0, 126, .inl md_degree)), ((ad 4), .inl (cs 0, 126, .inl md_hand)), ((ad 0), .inr (8, [.int md_thrownCode, .int p0, .int p1, .int p2, .int md_monomials_53, .ref (ad 1), .ref (ad 2), .int 0, .ref (ad 3), .ref (ad 4), .int 0, .int md_upTo, .ref (ad 5), .ref (ad 6), .ref (ad 7), .ref (ad 8), .int md_members, .int md_provedNow])), ((ad 1), .inl (cs 0, 126, .inl md_mono_54))] H := hP
                                  have hD : va_D A [((ad 2), .inl (cs 0, 126, .inl md_degree)), ((ad 4), .inl (cs 0, 126, .inl md_hand)), ((ad 0), .inr (8, [.int md_thrownCode, .int p0, .int p1, .int p2, .int md_monomials_53, .ref (ad 1), .ref (ad 2), .int 0, .ref (ad 3), .ref (ad 4), .int 0, .int md_upTo, .ref (ad 5), .ref (ad 6), .ref (ad 7), .ref (ad 8), .int md_members, .int md_provedNow])), ((ad 1), .inl (cs 0, 126, .inl md_mono_54))] := hD
                                  have hv := hw
                                  try dsimp only at hv
                                  obtain ⟨x8_55, ex8_55⟩ : ∃ y : Int32, y = x8_43 + 1 := ⟨_, rfl⟩
                                  have hv := hv x8_55 ex8_55
                                  refine lv_iinc (v := x8_55) (lv' := [(8, .int x8_55), (0, .ref (ad 0)), (1, .int p0), (2, .int p1), (3, .int p2), (4, .int r_7), (5, .int x5_8), (6, .int x6_27), (7, .int x7_35)]) hx hb d_md_fresh_155 hl (k := 8) rfl (by rw [ex8_55]; rfl) (by decide) rfl (fun ls hl => ?_)
                                  refine lv_goto (tgt := 96) hx hb d_md_fresh_158 (by decide) ?_
                                  exact ih96 x8_55 md_monomials_53 md_mono_54 (Nat.lt_of_lt_of_le hv.2 (Nat.le_of_lt_succ hlt96)) hv.1 _ _ _ (hP.sub [2, 3, 0, 1] rfl) (hD.sub [2, 3, 0, 1] (by decide) rfl) hS (lv_sub hl [1, 2, 3, 4, 5, 6, 7, 8, 0] rfl)
                            · have hv := hv.2 c_48
                              refine lv_iload hx hb d_md_fresh_106 (lv_at hl 4 rfl) ?_
                              refine lv_goto (tgt := 112) hx hb d_md_fresh_108 (by decide) ?_
                              refine lv_icmp_gt (tgt := 161) hx hb d_md_fresh_112 (by decide) (fun c_56 => ?_) (fun c_56 => ?_)
                              · have hv := hv.1 c_56
                                obtain ⟨x7_57, ex7_57⟩ : ∃ y : Int32, y = x7_35 + 1 := ⟨_, rfl⟩
                                have hv := hv x7_57 ex7_57
                                refine lv_iinc (v := x7_57) (lv' := [(7, .int x7_57), (0, .ref (ad 0)), (1, .int p0), (2, .int p1), (3, .int p2), (4, .int r_7), (5, .int x5_8), (6, .int x6_27), (8, .int x8_43)]) hx hb d_md_fresh_161 hl (k := 7) rfl (by rw [ex7_57]; rfl) (by decide) rfl (fun ls hl => ?_)
                                refine lv_goto (tgt := 74) hx hb d_md_fresh_164 (by decide) ?_
                                exact ih74 x7_57 md_monomials_44 md_mono_45 (Nat.lt_of_lt_of_le hv.2 (Nat.le_of_lt_succ hlt74)) hv.1 _ _ _ (hP.sub [0, 1, 2, 3] rfl) (hD.sub [0, 1, 2, 3] (by decide) rfl) hS (lv_sub hl [1, 2, 3, 4, 5, 6, 7, 0] rfl)
                              · have hv := hv.2 c_56
                                refine lv_iload hx hb d_md_fresh_115 (lv_at hl 5 rfl) ?_
                                refine lv_iload hx hb d_md_fresh_117 (lv_at hl 6 rfl) ?_
                                refine lv_iadd hx hb d_md_fresh_119 ?_
                                refine lv_iload hx hb d_md_fresh_120 (lv_at hl 7 rfl) ?_
                                refine lv_iadd hx hb d_md_fresh_122 ?_
                                refine lv_iload hx hb d_md_fresh_123 (lv_at hl 8 rfl) ?_
                                refine lv_iadd hx hb d_md_fresh_125 ?_
                                refine lv_iload hx hb d_md_fresh_126 (lv_at hl 4 rfl) ?_
                                refine lv_icmp_gt (tgt := 155) hx hb d_md_fresh_128 (by decide) (fun c_58 => ?_) (fun c_58 => ?_)
                                · have hv := hv.1 c_58
                                  obtain ⟨x8_59, ex8_59⟩ : ∃ y : Int32, y = x8_43 + 1 := ⟨_, rfl⟩
                                  have hv := hv x8_59 ex8_59
                                  refine lv_iinc (v := x8_59) (lv' := [(8, .int x8_59), (0, .ref (ad 0)), (1, .int p0), (2, .int p1), (3, .int p2), (4, .int r_7), (5, .int x5_8), (6, .int x6_27), (7, .int x7_35)]) hx hb d_md_fresh_155 hl (k := 8) rfl (by rw [ex8_59]; rfl) (by decide) rfl (fun ls hl => ?_)
                                  refine lv_goto (tgt := 96) hx hb d_md_fresh_158 (by decide) ?_
                                  exact ih96 x8_59 md_monomials_44 md_mono_45 (Nat.lt_of_lt_of_le hv.2 (Nat.le_of_lt_succ hlt96)) hv.1 _ _ _ (hP.sub [0, 1, 2, 3] rfl) (hD.sub [0, 1, 2, 3] (by decide) rfl) hS (lv_sub hl [1, 2, 3, 4, 5, 6, 7, 8, 0] rfl)
                                · have hv := hv.2 c_58
                                  refine lv_aload_n hx hb d_md_fresh_131 rfl (lv_at hl 0 rfl) ?_
                                  refine lv_iload hx hb d_md_fresh_132 (lv_at hl 5 rfl) ?_
                                  refine lv_bipush (v := 24) hx hb d_md_fresh_134 (by decide) ?_
                                  refine lv_ishl hx hb d_md_fresh_136 ?_
                                  refine lv_iload hx hb d_md_fresh_137 (lv_at hl 6 rfl) ?_
                                  refine lv_bipush (v := 16) hx hb d_md_fresh_139 (by decide) ?_
                                  refine lv_ishl hx hb d_md_fresh_141 ?_
                                  refine lv_ior hx hb d_md_fresh_142 ?_
                                  refine lv_iload hx hb d_md_fresh_143 (lv_at hl 7 rfl) ?_
                                  refine lv_bipush (v := 8) hx hb d_md_fresh_145 (by decide) ?_
                                  refine lv_ishl hx hb d_md_fresh_147 ?_
                                  refine lv_ior hx hb d_md_fresh_148 ?_
                                  refine lv_iload hx hb d_md_fresh_149 (lv_at hl 8 rfl) ?_
                                  refine lv_ior hx hb d_md_fresh_151 ?_
                                  have hPc := hP.sub (ws' := [((ad 0), .inr (8, [.int md_thrownCode, .int p0, .int p1, .int p2, .int md_monomials_44, .ref (ad 1), .ref (ad 2), .int 0, .ref (ad 3), .ref (ad 4), .int 0, .int md_upTo, .ref (ad 5), .ref (ad 6), .ref (ad 7), .ref (ad 8), .int md_members, .int md_provedNow])), ((ad 1), .inl (cs 0, 126, .inl md_mono_45))]) [0, 1] rfl
                                  have hDc := hD.sub (ws' := [((ad 0), .inr (8, [.int md_thrownCode, .int p0, .int p1, .int p2, .int md_monomials_44, .ref (ad 1), .ref (ad 2), .int 0, .ref (ad 3), .ref (ad 4), .int 0, .int md_upTo, .ref (ad 5), .ref (ad 6), .ref (ad 7), .ref (ad 8), .int md_members, .int md_provedNow])), ((ad 1), .inl (cs 0, 126, .inl md_mono_45))]) [0, 1] (by decide) rfl
                                  have hFc := va_free (wc := [((ad 0), .inr (8, [.int md_thrownCode, .int p0, .int p1, .int p2, .int md_monomials_44, .ref (ad 1), .ref (ad 2), .int 0, .ref (ad 3), .ref (ad 4), .int 0, .int md_upTo, .ref (ad 5), .ref (ad 6), .ref (ad 7), .ref (ad 8), .int md_members, .int md_provedNow])), ((ad 1), .inl (cs 0, 126, .inl md_mono_45))]) hD hS hA [0, 1] rfl
                                  refine va_callv (va_runV (As := [.int ((((x5_8 <<< (24 &&& 31)) ||| (x6_27 <<< (16 &&& 31))) ||| (x7_35 <<< (8 &&& 31))) ||| x8_43)]) (rest := []) ⟨hx, hb, hml, hown, hts⟩ (c_md_put l dC dI cs ad  H.size md_thrownCode p0 p1 p2 md_monomials_44 0 0 md_upTo md_members md_provedNow md_mono_45 ((((x5_8 <<< (24 &&& 31)) ||| (x6_27 <<< (16 &&& 31))) ||| (x7_35 <<< (8 &&& 31))) ||| x8_43) _ hv) (cwV 1 hts (gd_V kw_606 kw_607 kw_18 kw_41 kw_608) rfl rfl rfl (by decide +kernel) ⟨Nat.le_of_ble_eq_true rfl, Nat.le_of_ble_eq_true rfl⟩) ⟨fun a U g mk q => by obtain ⟨q0, q1, qP, qK, qD⟩ := q; exact ⟨q0, q1, qP, qK.call, qD⟩, va_recv hK hPc (ci := 8) (q0 := 0) rfl rfl, fun U hU hW => ⟨rfl, by rw [hU], by rw [hU]; exact hPc, vwK.warm hW ⟨hK, hN⟩, hDc.weaken (fun _ _ _ _ => trivial)⟩⟩ rfl rfl hl.1 rfl (lv_room (Nat.le_of_ble_eq_true rfl)) d_md_fresh_152 ⟨Nat.zero_le _, Nat.zero_le _⟩) hS (fun q _ h => hFc q h) hFc (fun u t H1 locs1 ht hvm hw hB hz1 hk1 hS => ?_)
                                  obtain ⟨md_monomials_60, md_mono_61⟩ := u
                                  obtain ⟨hP1, hD1⟩ := hB
                                  rw [ht] at hP1
                                  obtain ⟨hP, hD⟩ := va_join (wr := [((ad 2), .inl (cs 0, 126, .inl md_degree)), ((ad 4), .inl (cs 0, 126, .inl md_hand))]) (w1 := [((ad 0), .inr (8, [.int md_thrownCode, .int p0, .int p1, .int p2, .int md_monomials_60, .ref (ad 1), .ref (ad 2), .int 0, .ref (ad 3), .ref (ad 4), .int 0, .int md_upTo, .ref (ad 5), .ref (ad 6), .ref (ad 7), .ref (ad 8), .int md_members, .int md_provedNow])), ((ad 1), .inl (cs 0, 126, .inl md_mono_61))]) hP hD [0, 1] [2, 3] rfl rfl (by decide) (by decide) hk1 hFc hP1 hD1
                                  generalize H1 = H at hP hS ⊢
                                  generalize locs1 = locs at hS ⊢
                                  have hP : va_P (dC, dI) vwCl [((ad 2), .inl (cs 0, 126, .inl md_degree)), ((ad 4), .inl (cs 0, 126, .inl md_hand)), ((ad 0), .inr (8, [.int md_thrownCode, .int p0, .int p1, .int p2, .int md_monomials_60, .ref (ad 1), .ref (ad 2), .int 0, .ref (ad 3), .ref (ad 4), .int 0, .int md_upTo, .ref (ad 5), .ref (ad 6), .ref (ad 7), .ref (ad 8), .int md_members, .int md_provedNow])), ((ad 1), .inl (cs 0, 126, .inl md_mono_61))] H := hP
                                  have hD : va_D A [((ad 2), .inl (cs 0, 126, .inl md_degree)), ((ad 4), .inl (cs 0, 126, .inl md_hand)), ((ad 0), .inr (8, [.int md_thrownCode, .int p0, .int p1, .int p2, .int md_monomials_60, .ref (ad 1), .ref (ad 2), .int 0, .ref (ad 3), .ref (ad 4), .int 0, .int md_upTo, .ref (ad 5), .ref (ad 6), .ref (ad 7), .ref (ad 8), .int md_members, .int md_provedNow])), ((ad 1), .inl (cs 0, 126, .inl md_mono_61))] := hD
                                  have hv := hw
                                  try dsimp only at hv
                                  obtain ⟨x8_62, ex8_62⟩ : ∃ y : Int32, y = x8_43 + 1 := ⟨_, rfl⟩
                                  have hv := hv x8_62 ex8_62
                                  refine lv_iinc (v := x8_62) (lv' := [(8, .int x8_62), (0, .ref (ad 0)), (1, .int p0), (2, .int p1), (3, .int p2), (4, .int r_7), (5, .int x5_8), (6, .int x6_27), (7, .int x7_35)]) hx hb d_md_fresh_155 hl (k := 8) rfl (by rw [ex8_62]; rfl) (by decide) rfl (fun ls hl => ?_)
                                  refine lv_goto (tgt := 96) hx hb d_md_fresh_158 (by decide) ?_
                                  exact ih96 x8_62 md_monomials_60 md_mono_61 (Nat.lt_of_lt_of_le hv.2 (Nat.le_of_lt_succ hlt96)) hv.1 _ _ _ (hP.sub [2, 3, 0, 1] rfl) (hD.sub [2, 3, 0, 1] (by decide) rfl) hS (lv_sub hl [1, 2, 3, 4, 5, 6, 7, 8, 0] rfl)
                        exact loop96 _ 0 md_monomials_36 md_mono_37 (Nat.lt_succ_self _) hi0 _ _ _ hP hD hS hl
                    · have hv := hv.2 c_40
                      refine lv_iload hx hb d_md_fresh_84 (lv_at hl 4 rfl) ?_
                      refine lv_goto (tgt := 90) hx hb d_md_fresh_86 (by decide) ?_
                      refine lv_icmp_gt (tgt := 167) hx hb d_md_fresh_90 (by decide) (fun c_63 => ?_) (fun c_63 => ?_)
                      · have hv := hv.1 c_63
                        obtain ⟨x6_64, ex6_64⟩ : ∃ y : Int32, y = x6_27 + 1 := ⟨_, rfl⟩
                        have hv := hv x6_64 ex6_64
                        refine lv_iinc (v := x6_64) (lv' := [(6, .int x6_64), (0, .ref (ad 0)), (1, .int p0), (2, .int p1), (3, .int p2), (4, .int r_7), (5, .int x5_8), (7, .int x7_35)]) hx hb d_md_fresh_167 hl (k := 6) rfl (by rw [ex6_64]; rfl) (by decide) rfl (fun ls hl => ?_)
                        refine lv_goto (tgt := 52) hx hb d_md_fresh_170 (by decide) ?_
                        exact ih52 x6_64 md_monomials_36 md_mono_37 (Nat.lt_of_lt_of_le hv.2 (Nat.le_of_lt_succ hlt52)) hv.1 _ _ _ (hP.sub [0, 1, 2, 3] rfl) (hD.sub [0, 1, 2, 3] (by decide) rfl) hS (lv_sub hl [1, 2, 3, 4, 5, 6, 0] rfl)
                      · have hv := hv.2 c_63
                        refine lv_iconst (v := 0) hx hb d_md_fresh_93 (by decide) ?_
                        refine lv_istore (lv' := [(8, .int 0), (0, .ref (ad 0)), (1, .int p0), (2, .int p1), (3, .int p2), (4, .int r_7), (5, .int x5_8), (6, .int x6_27), (7, .int x7_35)]) hx hb d_md_fresh_94 hl (by decide) rfl (fun ls hl => ?_)
                        obtain ⟨I96_68, mu96_69, hi0, hv⟩ := hv
                        have hP := hP.sub (ws' := [((ad 0), .inr (8, [.int md_thrownCode, .int p0, .int p1, .int p2, .int md_monomials_36, .ref (ad 1), .ref (ad 2), .int 0, .ref (ad 3), .ref (ad 4), .int 0, .int md_upTo, .ref (ad 5), .ref (ad 6), .ref (ad 7), .ref (ad 8), .int md_members, .int md_provedNow])), ((ad 1), .inl (cs 0, 126, .inl md_mono_37)), ((ad 2), .inl (cs 0, 126, .inl md_degree)), ((ad 4), .inl (cs 0, 126, .inl md_hand))]) [0, 1, 2, 3] rfl
                        have hD := hD.sub (ws' := [((ad 0), .inr (8, [.int md_thrownCode, .int p0, .int p1, .int p2, .int md_monomials_36, .ref (ad 1), .ref (ad 2), .int 0, .ref (ad 3), .ref (ad 4), .int 0, .int md_upTo, .ref (ad 5), .ref (ad 6), .ref (ad 7), .ref (ad 8), .int md_members, .int md_provedNow])), ((ad 1), .inl (cs 0, 126, .inl md_mono_37)), ((ad 2), .inl (cs 0, 126, .inl md_degree)), ((ad 4), .inl (cs 0, 126, .inl md_hand))]) [0, 1, 2, 3] (by decide) rfl
                        have hl := lv_sub (l' := [(0, .ref (ad 0)), (1, .int p0), (2, .int p1), (3, .int p2), (4, .int r_7), (5, .int x5_8), (6, .int x6_27), (7, .int x7_35), (8, .int 0)]) hl [1, 2, 3, 4, 5, 6, 7, 8, 0] rfl
                        have loop96 : ∀ (nn : Nat) (x8_65 : Int32) (md_monomials_66 : Int32) (md_mono_67 : Nat → Int32), mu96_69 x8_65 md_monomials_66 md_mono_67 < nn → I96_68 x8_65 md_monomials_66 md_mono_67 → ∀ (H : Heap) (locs : List Loc) (ls : Array Slot), va_P (dC, dI) vwCl [((ad 0), .inr (8, [.int md_thrownCode, .int p0, .int p1, .int p2, .int md_monomials_66, .ref (ad 1), .ref (ad 2), .int 0, .ref (ad 3), .ref (ad 4), .int 0, .int md_upTo, .ref (ad 5), .ref (ad 6), .ref (ad 7), .ref (ad 8), .int md_members, .int md_provedNow])), ((ad 1), .inl (cs 0, 126, .inl md_mono_67)), ((ad 2), .inl (cs 0, 126, .inl md_degree)), ((ad 4), .inl (cs 0, 126, .inl md_hand))] H → va_D A [((ad 0), .inr (8, [.int md_thrownCode, .int p0, .int p1, .int p2, .int md_monomials_66, .ref (ad 1), .ref (ad 2), .int 0, .ref (ad 3), .ref (ad 4), .int 0, .int md_upTo, .ref (ad 5), .ref (ad 6), .ref (ad 7), .ref (ad 8), .int md_members, .int md_provedNow])), ((ad 1), .inl (cs 0, 126, .inl md_mono_67)), ((ad 2), .inl (cs 0, 126, .inl md_degree)), ((ad 4), .inl (cs 0, 126, .inl md_hand))] → va_S A s.heap H locs → lv_has ls 9 [(0, .ref (ad 0)), (1, .int p0), (2, .int p1), (3, .int p2), (4, .int r_7), (5, .int x5_8), (6, .int x6_27), (7, .int x7_35), (8, .int x8_65)] → W p l e (headSpec w_md_fresh { frames := 4, cells := 0, slots := 0, locals := 87 }).room s m ([.ref (ad 0), .int p0, .int p1, .int p2] : List Value).toArray below meth c H locs 0 0 (MQ below (va_Qv (fun (u : Int32 × Int32 × Int32 × Int32 × Int32 × Int32 × (Nat → Int32) × (Nat → Int32) × (Nat → Int32)) => Q u.1 u.2.1 u.2.2.1 u.2.2.2.1 u.2.2.2.2.1 u.2.2.2.2.2.1 u.2.2.2.2.2.2.1 u.2.2.2.2.2.2.2.1 u.2.2.2.2.2.2.2.2) (at_md_fresh dC dI cs A ad md_thrownCode md_upTo md_members md_provedNow) A) ([.ref (ad 0), .int p0, .int p1, .int p2] : List Value).toArray s 0 0 A) (F0 m 96 ls []) := by
                          intro nn
                          induction nn with
                          | zero => intro x8_65 md_monomials_66 md_mono_67 hlt; exact absurd hlt (Nat.not_lt_zero _)
                          | succ nn ih96 =>
                            intro x8_65 md_monomials_66 md_mono_67 hlt96 hI H locs ls hP hD hS hl
                            have hv := hv x8_65 md_monomials_66 md_mono_67 hI
                            refine lv_iload hx hb d_md_fresh_96 (lv_at hl 8 rfl) ?_
                            refine lv_aload_n hx hb d_md_fresh_98 rfl (lv_at hl 0 rfl) ?_
                            refine va_get (D := (dC, dI)) (ci := 8) (v := .int p1) (C := R_md) (T := F_md) (N := 18) hx hb hts in_md hown hK hP 0 rfl rfl 2 (by decide) (hts _ kw_620) (fun _ h9 => h9) rfl d_md_fresh_99 ?_
                            refine lv_iconst (v := 3) hx hb d_md_fresh_102 (by decide) ?_
                            refine lv_icmp_le (tgt := 111) hx hb d_md_fresh_103 (by decide) (fun c_70 => ?_) (fun c_70 => ?_)
                            · have hv := hv.1 c_70
                              refine lv_iconst (v := 0) hx hb d_md_fresh_111 (by decide) ?_
                              refine lv_icmp_gt (tgt := 161) hx hb d_md_fresh_112 (by decide) (fun c_71 => ?_) (fun c_71 => ?_)
                              · have hv := hv.1 c_71
                                obtain ⟨x7_72, ex7_72⟩ : ∃ y : Int32, y = x7_35 + 1 := ⟨_, rfl⟩
                                have hv := hv x7_72 ex7_72
                                refine lv_iinc (v := x7_72) (lv' := [(7, .int x7_72), (0, .ref (ad 0)), (1, .int p0), (2, .int p1), (3, .int p2), (4, .int r_7), (5, .int x5_8), (6, .int x6_27), (8, .int x8_65)]) hx hb d_md_fresh_161 hl (k := 7) rfl (by rw [ex7_72]; rfl) (by decide) rfl (fun ls hl => ?_)
                                refine lv_goto (tgt := 74) hx hb d_md_fresh_164 (by decide) ?_
                                exact ih74 x7_72 md_monomials_66 md_mono_67 (Nat.lt_of_lt_of_le hv.2 (Nat.le_of_lt_succ hlt74)) hv.1 _ _ _ (hP.sub [0, 1, 2, 3] rfl) (hD.sub [0, 1, 2, 3] (by decide) rfl) hS (lv_sub hl [1, 2, 3, 4, 5, 6, 7, 0] rfl)
                              · have hv := hv.2 c_71
                                refine lv_iload hx hb d_md_fresh_115 (lv_at hl 5 rfl) ?_
                                refine lv_iload hx hb d_md_fresh_117 (lv_at hl 6 rfl) ?_
                                refine lv_iadd hx hb d_md_fresh_119 ?_
                                refine lv_iload hx hb d_md_fresh_120 (lv_at hl 7 rfl) ?_
                                refine lv_iadd hx hb d_md_fresh_122 ?_
                                refine lv_iload hx hb d_md_fresh_123 (lv_at hl 8 rfl) ?_
                                refine lv_iadd hx hb d_md_fresh_125 ?_
                                refine lv_iload hx hb d_md_fresh_126 (lv_at hl 4 rfl) ?_
                                refine lv_icmp_gt (tgt := 155) hx hb d_md_fresh_128 (by decide) (fun c_73 => ?_) (fun c_73 => ?_)
                                · have hv := hv.1 c_73
                                  obtain ⟨x8_74, ex8_74⟩ : ∃ y : Int32, y = x8_65 + 1 := ⟨_, rfl⟩
                                  have hv := hv x8_74 ex8_74
                                  refine lv_iinc (v := x8_74) (lv' := [(8, .int x8_74), (0, .ref (ad 0)), (1, .int p0), (2, .int p1), (3, .int p2), (4, .int r_7), (5, .int x5_8), (6, .int x6_27), (7, .int x7_35)]) hx hb d_md_fresh_155 hl (k := 8) rfl (by rw [ex8_74]; rfl) (by decide) rfl (fun ls hl => ?_)
                                  refine lv_goto (tgt := 96) hx hb d_md_fresh_158 (by decide) ?_
                                  exact ih96 x8_74 md_monomials_66 md_mono_67 (Nat.lt_of_lt_of_le hv.2 (Nat.le_of_lt_succ hlt96)) hv.1 _ _ _ (hP.sub [0, 1, 2, 3] rfl) (hD.sub [0, 1, 2, 3] (by decide) rfl) hS (lv_sub hl [1, 2, 3, 4, 5, 6, 7, 8, 0] rfl)
                                · have hv := hv.2 c_73
                                  refine lv_aload_n hx hb d_md_fresh_131 rfl (lv_at hl 0 rfl) ?_
                                  refine lv_iload hx hb d_md_fresh_132 (lv_at hl 5 rfl) ?_
                                  refine lv_bipush (v := 24) hx hb d_md_fresh_134 (by decide) ?_
                                  refine lv_ishl hx hb d_md_fresh_136 ?_
                                  refine lv_iload hx hb d_md_fresh_137 (lv_at hl 6 rfl) ?_
                                  refine lv_bipush (v := 16) hx hb d_md_fresh_139 (by decide) ?_
                                  refine lv_ishl hx hb d_md_fresh_141 ?_
                                  refine lv_ior hx hb d_md_fresh_142 ?_
                                  refine lv_iload hx hb d_md_fresh_143 (lv_at hl 7 rfl) ?_
                                  refine lv_bipush (v := 8) hx hb d_md_fresh_145 (by decide) ?_
                                  refine lv_ishl hx hb d_md_fresh_147 ?_
                                  refine lv_ior hx hb d_md_fresh_148 ?_
                                  refine lv_iload hx hb d_md_fresh_149 (lv_at hl 8 rfl) ?_
                                  refine lv_ior hx hb d_md_fresh_151 ?_
                                  have hPc := hP.sub (ws' := [((ad 0), .inr (8, [.int md_thrownCode, .int p0, .int p1, .int p2, .int md_monomials_66, .ref (ad 1), .ref (ad 2), .int 0, .ref (ad 3), .ref (ad 4), .int 0, .int md_upTo, .ref (ad 5), .ref (ad 6), .ref (ad 7), .ref (ad 8), .int md_members, .int md_provedNow])), ((ad 1), .inl (cs 0, 126, .inl md_mono_67))]) [0, 1] rfl
                                  have hDc := hD.sub (ws' := [((ad 0), .inr (8, [.int md_thrownCode, .int p0, .int p1, .int p2, .int md_monomials_66, .ref (ad 1), .ref (ad 2), .int 0, .ref (ad 3), .ref (ad 4), .int 0, .int md_upTo, .ref (ad 5), .ref (ad 6), .ref (ad 7), .ref (ad 8), .int md_members, .int md_provedNow])), ((ad 1), .inl (cs 0, 126, .inl md_mono_67))]) [0, 1] (by decide) rfl
                                  have hFc := va_free (wc := [((ad 0), .inr (8, [.int md_thrownCode, .int p0, .int p1, .int p2, .int md_monomials_66, .ref (ad 1), .ref (ad 2), .int 0, .ref (ad 3), .ref (ad 4), .int 0, .int md_upTo, .ref (ad 5), .ref (ad 6), .ref (ad 7), .ref (ad 8), .int md_members, .int md_provedNow])), ((ad 1), .inl (cs 0, 126, .inl md_mono_67))]) hD hS hA [0, 1] rfl
                                  refine va_callv (va_runV (As := [.int ((((x5_8 <<< (24 &&& 31)) ||| (x6_27 <<< (16 &&& 31))) ||| (x7_35 <<< (8 &&& 31))) ||| x8_65)]) (rest := []) ⟨hx, hb, hml, hown, hts⟩ (c_md_put l dC dI cs ad  H.size md_thrownCode p0 p1 p2 md_monomials_66 0 0 md_upTo md_members md_provedNow md_mono_67 ((((x5_8 <<< (24 &&& 31)) ||| (x6_27 <<< (16 &&& 31))) ||| (x7_35 <<< (8 &&& 31))) ||| x8_65) _ hv) (cwV 1 hts (gd_V kw_606 kw_607 kw_18 kw_41 kw_608) rfl rfl rfl (by decide +kernel) ⟨Nat.le_of_ble_eq_true rfl, Nat.le_of_ble_eq_true rfl⟩) ⟨fun a U g mk q => by obtain ⟨q0, q1, qP, qK, qD⟩ := q; exact ⟨q0, q1, qP, qK.call, qD⟩, va_recv hK hPc (ci := 8) (q0 := 0) rfl rfl, fun U hU hW => ⟨rfl, by rw [hU], by rw [hU]; exact hPc, vwK.warm hW ⟨hK, hN⟩, hDc.weaken (fun _ _ _ _ => trivial)⟩⟩ rfl rfl hl.1 rfl (lv_room (Nat.le_of_ble_eq_true rfl)) d_md_fresh_152 ⟨Nat.zero_le _, Nat.zero_le _⟩) hS (fun q _ h => hFc q h) hFc (fun u t H1 locs1 ht hvm hw hB hz1 hk1 hS => ?_)
                                  obtain ⟨md_monomials_75, md_mono_76⟩ := u
                                  obtain ⟨hP1, hD1⟩ := hB
                                  rw [ht] at hP1
                                  obtain ⟨hP, hD⟩ := va_join (wr := [((ad 2), .inl (cs 0, 126, .inl md_degree)), ((ad 4), .inl (cs 0, 126, .inl md_hand))]) (w1 := [((ad 0), .inr (8, [.int md_thrownCode, .int p0, .int p1, .int p2, .int md_monomials_75, .ref (ad 1), .ref (ad 2), .int 0, .ref (ad 3), .ref (ad 4), .int 0, .int md_upTo, .ref (ad 5), .ref (ad 6), .ref (ad 7), .ref (ad 8), .int md_members, .int md_provedNow])), ((ad 1), .inl (cs 0, 126, .inl md_mono_76))]) hP hD [0, 1] [2, 3] rfl rfl (by decide) (by decide) hk1 hFc hP1 hD1
                                  generalize H1 = H at hP hS ⊢
                                  generalize locs1 = locs at hS ⊢
                                  have hP : va_P (dC, dI) vwCl [((ad 2), .inl (cs 0, 126, .inl md_degree)), ((ad 4), .inl (cs 0, 126, .inl md_hand)), ((ad 0), .inr (8, [.int md_thrownCode, .int p0, .int p1, .int p2, .int md_monomials_75, .ref (ad 1), .ref (ad 2), .int 0, .ref (ad 3), .ref (ad 4), .int 0, .int md_upTo, .ref (ad 5), .ref (ad 6), .ref (ad 7), .ref (ad 8), .int md_members, .int md_provedNow])), ((ad 1), .inl (cs 0, 126, .inl md_mono_76))] H := hP
                                  have hD : va_D A [((ad 2), .inl (cs 0, 126, .inl md_degree)), ((ad 4), .inl (cs 0, 126, .inl md_hand)), ((ad 0), .inr (8, [.int md_thrownCode, .int p0, .int p1, .int p2, .int md_monomials_75, .ref (ad 1), .ref (ad 2), .int 0, .ref (ad 3), .ref (ad 4), .int 0, .int md_upTo, .ref (ad 5), .ref (ad 6), .ref (ad 7), .ref (ad 8), .int md_members, .int md_provedNow])), ((ad 1), .inl (cs 0, 126, .inl md_mono_76))] := hD
                                  have hv := hw
                                  try dsimp only at hv
                                  obtain ⟨x8_77, ex8_77⟩ : ∃ y : Int32, y = x8_65 + 1 := ⟨_, rfl⟩
                                  have hv := hv x8_77 ex8_77
                                  refine lv_iinc (v := x8_77) (lv' := [(8, .int x8_77), (0, .ref (ad 0)), (1, .int p0), (2, .int p1), (3, .int p2), (4, .int r_7), (5, .int x5_8), (6, .int x6_27), (7, .int x7_35)]) hx hb d_md_fresh_155 hl (k := 8) rfl (by rw [ex8_77]; rfl) (by decide) rfl (fun ls hl => ?_)
                                  refine lv_goto (tgt := 96) hx hb d_md_fresh_158 (by decide) ?_
                                  exact ih96 x8_77 md_monomials_75 md_mono_76 (Nat.lt_of_lt_of_le hv.2 (Nat.le_of_lt_succ hlt96)) hv.1 _ _ _ (hP.sub [2, 3, 0, 1] rfl) (hD.sub [2, 3, 0, 1] (by decide) rfl) hS (lv_sub hl [1, 2, 3, 4, 5, 6, 7, 8, 0] rfl)
                            · have hv := hv.2 c_70
                              refine lv_iload hx hb d_md_fresh_106 (lv_at hl 4 rfl) ?_
                              refine lv_goto (tgt := 112) hx hb d_md_fresh_108 (by decide) ?_
                              refine lv_icmp_gt (tgt := 161) hx hb d_md_fresh_112 (by decide) (fun c_78 => ?_) (fun c_78 => ?_)
                              · have hv := hv.1 c_78
                                obtain ⟨x7_79, ex7_79⟩ : ∃ y : Int32, y = x7_35 + 1 := ⟨_, rfl⟩
                                have hv := hv x7_79 ex7_79
                                refine lv_iinc (v := x7_79) (lv' := [(7, .int x7_79), (0, .ref (ad 0)), (1, .int p0), (2, .int p1), (3, .int p2), (4, .int r_7), (5, .int x5_8), (6, .int x6_27), (8, .int x8_65)]) hx hb d_md_fresh_161 hl (k := 7) rfl (by rw [ex7_79]; rfl) (by decide) rfl (fun ls hl => ?_)
                                refine lv_goto (tgt := 74) hx hb d_md_fresh_164 (by decide) ?_
                                exact ih74 x7_79 md_monomials_66 md_mono_67 (Nat.lt_of_lt_of_le hv.2 (Nat.le_of_lt_succ hlt74)) hv.1 _ _ _ (hP.sub [0, 1, 2, 3] rfl) (hD.sub [0, 1, 2, 3] (by decide) rfl) hS (lv_sub hl [1, 2, 3, 4, 5, 6, 7, 0] rfl)
                              · have hv := hv.2 c_78
                                refine lv_iload hx hb d_md_fresh_115 (lv_at hl 5 rfl) ?_
                                refine lv_iload hx hb d_md_fresh_117 (lv_at hl 6 rfl) ?_
                                refine lv_iadd hx hb d_md_fresh_119 ?_
                                refine lv_iload hx hb d_md_fresh_120 (lv_at hl 7 rfl) ?_
                                refine lv_iadd hx hb d_md_fresh_122 ?_
                                refine lv_iload hx hb d_md_fresh_123 (lv_at hl 8 rfl) ?_
                                refine lv_iadd hx hb d_md_fresh_125 ?_
                                refine lv_iload hx hb d_md_fresh_126 (lv_at hl 4 rfl) ?_
                                refine lv_icmp_gt (tgt := 155) hx hb d_md_fresh_128 (by decide) (fun c_80 => ?_) (fun c_80 => ?_)
                                · have hv := hv.1 c_80
                                  obtain ⟨x8_81, ex8_81⟩ : ∃ y : Int32, y = x8_65 + 1 := ⟨_, rfl⟩
                                  have hv := hv x8_81 ex8_81
                                  refine lv_iinc (v := x8_81) (lv' := [(8, .int x8_81), (0, .ref (ad 0)), (1, .int p0), (2, .int p1), (3, .int p2), (4, .int r_7), (5, .int x5_8), (6, .int x6_27), (7, .int x7_35)]) hx hb d_md_fresh_155 hl (k := 8) rfl (by rw [ex8_81]; rfl) (by decide) rfl (fun ls hl => ?_)
                                  refine lv_goto (tgt := 96) hx hb d_md_fresh_158 (by decide) ?_
                                  exact ih96 x8_81 md_monomials_66 md_mono_67 (Nat.lt_of_lt_of_le hv.2 (Nat.le_of_lt_succ hlt96)) hv.1 _ _ _ (hP.sub [0, 1, 2, 3] rfl) (hD.sub [0, 1, 2, 3] (by decide) rfl) hS (lv_sub hl [1, 2, 3, 4, 5, 6, 7, 8, 0] rfl)
                                · have hv := hv.2 c_80
                                  refine lv_aload_n hx hb d_md_fresh_131 rfl (lv_at hl 0 rfl) ?_
                                  refine lv_iload hx hb d_md_fresh_132 (lv_at hl 5 rfl) ?_
                                  refine lv_bipush (v := 24) hx hb d_md_fresh_134 (by decide) ?_
                                  refine lv_ishl hx hb d_md_fresh_136 ?_
                                  refine lv_iload hx hb d_md_fresh_137 (lv_at hl 6 rfl) ?_
                                  refine lv_bipush (v := 16) hx hb d_md_fresh_139 (by decide) ?_
                                  refine lv_ishl hx hb d_md_fresh_141 ?_
                                  refine lv_ior hx hb d_md_fresh_142 ?_
                                  refine lv_iload hx hb d_md_fresh_143 (lv_at hl 7 rfl) ?_
                                  refine lv_bipush (v := 8) hx hb d_md_fresh_145 (by decide) ?_
                                  refine lv_ishl hx hb d_md_fresh_147 ?_
                                  refine lv_ior hx hb d_md_fresh_148 ?_
                                  refine lv_iload hx hb d_md_fresh_149 (lv_at hl 8 rfl) ?_
                                  refine lv_ior hx hb d_md_fresh_151 ?_
                                  have hPc := hP.sub (ws' := [((ad 0), .inr (8, [.int md_thrownCode, .int p0, .int p1, .int p2, .int md_monomials_66, .ref (ad 1), .ref (ad 2), .int 0, .ref (ad 3), .ref (ad 4), .int 0, .int md_upTo, .ref (ad 5), .ref (ad 6), .ref (ad 7), .ref (ad 8), .int md_members, .int md_provedNow])), ((ad 1), .inl (cs 0, 126, .inl md_mono_67))]) [0, 1] rfl
                                  have hDc := hD.sub (ws' := [((ad 0), .inr (8, [.int md_thrownCode, .int p0, .int p1, .int p2, .int md_monomials_66, .ref (ad 1), .ref (ad 2), .int 0, .ref (ad 3), .ref (ad 4), .int 0, .int md_upTo, .ref (ad 5), .ref (ad 6), .ref (ad 7), .ref (ad 8), .int md_members, .int md_provedNow])), ((ad 1), .inl (cs 0, 126, .inl md_mono_67))]) [0, 1] (by decide) rfl
                                  have hFc := va_free (wc := [((ad 0), .inr (8, [.int md_thrownCode, .int p0, .int p1, .int p2, .int md_monomials_66, .ref (ad 1), .ref (ad 2), .int 0, .ref (ad 3), .ref (ad 4), .int 0, .int md_upTo, .ref (ad 5), .ref (ad 6), .ref (ad 7), .ref (ad 8), .int md_members, .int md_provedNow])), ((ad 1), .inl (cs 0, 126, .inl md_mono_67))]) hD hS hA [0, 1] rfl
                                  refine va_callv (va_runV (As := [.int ((((x5_8 <<< (24 &&& 31)) ||| (x6_27 <<< (16 &&& 31))) ||| (x7_35 <<< (8 &&& 31))) ||| x8_65)]) (rest := []) ⟨hx, hb, hml, hown, hts⟩ (c_md_put l dC dI cs ad  H.size md_thrownCode p0 p1 p2 md_monomials_66 0 0 md_upTo md_members md_provedNow md_mono_67 ((((x5_8 <<< (24 &&& 31)) ||| (x6_27 <<< (16 &&& 31))) ||| (x7_35 <<< (8 &&& 31))) ||| x8_65) _ hv) (cwV 1 hts (gd_V kw_606 kw_607 kw_18 kw_41 kw_608) rfl rfl rfl (by decide +kernel) ⟨Nat.le_of_ble_eq_true rfl, Nat.le_of_ble_eq_true rfl⟩) ⟨fun a U g mk q => by obtain ⟨q0, q1, qP, qK, qD⟩ := q; exact ⟨q0, q1, qP, qK.call, qD⟩, va_recv hK hPc (ci := 8) (q0 := 0) rfl rfl, fun U hU hW => ⟨rfl, by rw [hU], by rw [hU]; exact hPc, vwK.warm hW ⟨hK, hN⟩, hDc.weaken (fun _ _ _ _ => trivial)⟩⟩ rfl rfl hl.1 rfl (lv_room (Nat.le_of_ble_eq_true rfl)) d_md_fresh_152 ⟨Nat.zero_le _, Nat.zero_le _⟩) hS (fun q _ h => hFc q h) hFc (fun u t H1 locs1 ht hvm hw hB hz1 hk1 hS => ?_)
                                  obtain ⟨md_monomials_82, md_mono_83⟩ := u
                                  obtain ⟨hP1, hD1⟩ := hB
                                  rw [ht] at hP1
                                  obtain ⟨hP, hD⟩ := va_join (wr := [((ad 2), .inl (cs 0, 126, .inl md_degree)), ((ad 4), .inl (cs 0, 126, .inl md_hand))]) (w1 := [((ad 0), .inr (8, [.int md_thrownCode, .int p0, .int p1, .int p2, .int md_monomials_82, .ref (ad 1), .ref (ad 2), .int 0, .ref (ad 3), .ref (ad 4), .int 0, .int md_upTo, .ref (ad 5), .ref (ad 6), .ref (ad 7), .ref (ad 8), .int md_members, .int md_provedNow])), ((ad 1), .inl (cs 0, 126, .inl md_mono_83))]) hP hD [0, 1] [2, 3] rfl rfl (by decide) (by decide) hk1 hFc hP1 hD1
                                  generalize H1 = H at hP hS ⊢
                                  generalize locs1 = locs at hS ⊢
                                  have hP : va_P (dC, dI) vwCl [((ad 2), .inl (cs 0, 126, .inl md_degree)), ((ad 4), .inl (cs 0, 126, .inl md_hand)), ((ad 0), .inr (8, [.int md_thrownCode, .int p0, .int p1, .int p2, .int md_monomials_82, .ref (ad 1), .ref (ad 2), .int 0, .ref (ad 3), .ref (ad 4), .int 0, .int md_upTo, .ref (ad 5), .ref (ad 6), .ref (ad 7), .ref (ad 8), .int md_members, .int md_provedNow])), ((ad 1), .inl (cs 0, 126, .inl md_mono_83))] H := hP
                                  have hD : va_D A [((ad 2), .inl (cs 0, 126, .inl md_degree)), ((ad 4), .inl (cs 0, 126, .inl md_hand)), ((ad 0), .inr (8, [.int md_thrownCode, .int p0, .int p1, .int p2, .int md_monomials_82, .ref (ad 1), .ref (ad 2), .int 0, .ref (ad 3), .ref (ad 4), .int 0, .int md_upTo, .ref (ad 5), .ref (ad 6), .ref (ad 7), .ref (ad 8), .int md_members, .int md_provedNow])), ((ad 1), .inl (cs 0, 126, .inl md_mono_83))] := hD
                                  have hv := hw
                                  try dsimp only at hv
                                  obtain ⟨x8_84, ex8_84⟩ : ∃ y : Int32, y = x8_65 + 1 := ⟨_, rfl⟩
                                  have hv := hv x8_84 ex8_84
                                  refine lv_iinc (v := x8_84) (lv' := [(8, .int x8_84), (0, .ref (ad 0)), (1, .int p0), (2, .int p1), (3, .int p2), (4, .int r_7), (5, .int x5_8), (6, .int x6_27), (7, .int x7_35)]) hx hb d_md_fresh_155 hl (k := 8) rfl (by rw [ex8_84]; rfl) (by decide) rfl (fun ls hl => ?_)
                                  refine lv_goto (tgt := 96) hx hb d_md_fresh_158 (by decide) ?_
                                  exact ih96 x8_84 md_monomials_82 md_mono_83 (Nat.lt_of_lt_of_le hv.2 (Nat.le_of_lt_succ hlt96)) hv.1 _ _ _ (hP.sub [2, 3, 0, 1] rfl) (hD.sub [2, 3, 0, 1] (by decide) rfl) hS (lv_sub hl [1, 2, 3, 4, 5, 6, 7, 8, 0] rfl)
                        exact loop96 _ 0 md_monomials_36 md_mono_37 (Nat.lt_succ_self _) hi0 _ _ _ hP hD hS hl
                exact loop74 _ 0 md_monomials_28 md_mono_29 (Nat.lt_succ_self _) hi0 _ _ _ hP hD hS hl
            · have hv := hv.2 c_32
              refine lv_iload hx hb d_md_fresh_62 (lv_at hl 4 rfl) ?_
              refine lv_goto (tgt := 68) hx hb d_md_fresh_64 (by decide) ?_
              refine lv_icmp_gt (tgt := 173) hx hb d_md_fresh_68 (by decide) (fun c_85 => ?_) (fun c_85 => ?_)
              · have hv := hv.1 c_85
                obtain ⟨x5_86, ex5_86⟩ : ∃ y : Int32, y = x5_8 + 1 := ⟨_, rfl⟩
                have hv := hv x5_86 ex5_86
                refine lv_iinc (v := x5_86) (lv' := [(5, .int x5_86), (0, .ref (ad 0)), (1, .int p0), (2, .int p1), (3, .int p2), (4, .int r_7), (6, .int x6_27)]) hx hb d_md_fresh_173 hl (k := 5) rfl (by rw [ex5_86]; rfl) (by decide) rfl (fun ls hl => ?_)
                refine lv_goto (tgt := 42) hx hb d_md_fresh_176 (by decide) ?_
                exact ih42 x5_86 md_monomials_28 md_mono_29 (Nat.lt_of_lt_of_le hv.2 (Nat.le_of_lt_succ hlt42)) hv.1 _ _ _ (hP.sub [0, 1, 2, 3] rfl) (hD.sub [0, 1, 2, 3] (by decide) rfl) hS (lv_sub hl [1, 2, 3, 4, 5, 0] rfl)
              · have hv := hv.2 c_85
                refine lv_iconst (v := 0) hx hb d_md_fresh_71 (by decide) ?_
                refine lv_istore (lv' := [(7, .int 0), (0, .ref (ad 0)), (1, .int p0), (2, .int p1), (3, .int p2), (4, .int r_7), (5, .int x5_8), (6, .int x6_27)]) hx hb d_md_fresh_72 hl (by decide) rfl (fun ls hl => ?_)
                obtain ⟨I74_90, mu74_91, hi0, hv⟩ := hv
                have hP := hP.sub (ws' := [((ad 0), .inr (8, [.int md_thrownCode, .int p0, .int p1, .int p2, .int md_monomials_28, .ref (ad 1), .ref (ad 2), .int 0, .ref (ad 3), .ref (ad 4), .int 0, .int md_upTo, .ref (ad 5), .ref (ad 6), .ref (ad 7), .ref (ad 8), .int md_members, .int md_provedNow])), ((ad 1), .inl (cs 0, 126, .inl md_mono_29)), ((ad 2), .inl (cs 0, 126, .inl md_degree)), ((ad 4), .inl (cs 0, 126, .inl md_hand))]) [0, 1, 2, 3] rfl
                have hD := hD.sub (ws' := [((ad 0), .inr (8, [.int md_thrownCode, .int p0, .int p1, .int p2, .int md_monomials_28, .ref (ad 1), .ref (ad 2), .int 0, .ref (ad 3), .ref (ad 4), .int 0, .int md_upTo, .ref (ad 5), .ref (ad 6), .ref (ad 7), .ref (ad 8), .int md_members, .int md_provedNow])), ((ad 1), .inl (cs 0, 126, .inl md_mono_29)), ((ad 2), .inl (cs 0, 126, .inl md_degree)), ((ad 4), .inl (cs 0, 126, .inl md_hand))]) [0, 1, 2, 3] (by decide) rfl
                have hl := lv_sub (l' := [(0, .ref (ad 0)), (1, .int p0), (2, .int p1), (3, .int p2), (4, .int r_7), (5, .int x5_8), (6, .int x6_27), (7, .int 0)]) hl [1, 2, 3, 4, 5, 6, 7, 0] rfl
                have loop74 : ∀ (nn : Nat) (x7_87 : Int32) (md_monomials_88 : Int32) (md_mono_89 : Nat → Int32), mu74_91 x7_87 md_monomials_88 md_mono_89 < nn → I74_90 x7_87 md_monomials_88 md_mono_89 → ∀ (H : Heap) (locs : List Loc) (ls : Array Slot), va_P (dC, dI) vwCl [((ad 0), .inr (8, [.int md_thrownCode, .int p0, .int p1, .int p2, .int md_monomials_88, .ref (ad 1), .ref (ad 2), .int 0, .ref (ad 3), .ref (ad 4), .int 0, .int md_upTo, .ref (ad 5), .ref (ad 6), .ref (ad 7), .ref (ad 8), .int md_members, .int md_provedNow])), ((ad 1), .inl (cs 0, 126, .inl md_mono_89)), ((ad 2), .inl (cs 0, 126, .inl md_degree)), ((ad 4), .inl (cs 0, 126, .inl md_hand))] H → va_D A [((ad 0), .inr (8, [.int md_thrownCode, .int p0, .int p1, .int p2, .int md_monomials_88, .ref (ad 1), .ref (ad 2), .int 0, .ref (ad 3), .ref (ad 4), .int 0, .int md_upTo, .ref (ad 5), .ref (ad 6), .ref (ad 7), .ref (ad 8), .int md_members, .int md_provedNow])), ((ad 1), .inl (cs 0, 126, .inl md_mono_89)), ((ad 2), .inl (cs 0, 126, .inl md_degree)), ((ad 4), .inl (cs 0, 126, .inl md_hand))] → va_S A s.heap H locs → lv_has ls 9 [(0, .ref (ad 0)), (1, .int p0), (2, .int p1), (3, .int p2), (4, .int r_7), (5, .int x5_8), (6, .int x6_27), (7, .int x7_87)] → W p l e (headSpec w_md_fresh { frames := 4, cells := 0, slots := 0, locals := 87 }).room s m ([.ref (ad 0), .int p0, .int p1, .int p2] : List Value).toArray below meth c H locs 0 0 (MQ below (va_Qv (fun (u : Int32 × Int32 × Int32 × Int32 × Int32 × Int32 × (Nat → Int32) × (Nat → Int32) × (Nat → Int32)) => Q u.1 u.2.1 u.2.2.1 u.2.2.2.1 u.2.2.2.2.1 u.2.2.2.2.2.1 u.2.2.2.2.2.2.1 u.2.2.2.2.2.2.2.1 u.2.2.2.2.2.2.2.2) (at_md_fresh dC dI cs A ad md_thrownCode md_upTo md_members md_provedNow) A) ([.ref (ad 0), .int p0, .int p1, .int p2] : List Value).toArray s 0 0 A) (F0 m 74 ls []) := by
                  intro nn
                  induction nn with
                  | zero => intro x7_87 md_monomials_88 md_mono_89 hlt; exact absurd hlt (Nat.not_lt_zero _)
                  | succ nn ih74 =>
                    intro x7_87 md_monomials_88 md_mono_89 hlt74 hI H locs ls hP hD hS hl
                    have hv := hv x7_87 md_monomials_88 md_mono_89 hI
                    refine lv_iload hx hb d_md_fresh_74 (lv_at hl 7 rfl) ?_
                    refine lv_aload_n hx hb d_md_fresh_76 rfl (lv_at hl 0 rfl) ?_
                    refine va_get (D := (dC, dI)) (ci := 8) (v := .int p1) (C := R_md) (T := F_md) (N := 18) hx hb hts in_md hown hK hP 0 rfl rfl 2 (by decide) (hts _ kw_620) (fun _ h9 => h9) rfl d_md_fresh_77 ?_
                    refine lv_iconst (v := 2) hx hb d_md_fresh_80 (by decide) ?_
                    refine lv_icmp_le (tgt := 89) hx hb d_md_fresh_81 (by decide) (fun c_92 => ?_) (fun c_92 => ?_)
                    · have hv := hv.1 c_92
                      refine lv_iconst (v := 0) hx hb d_md_fresh_89 (by decide) ?_
                      refine lv_icmp_gt (tgt := 167) hx hb d_md_fresh_90 (by decide) (fun c_93 => ?_) (fun c_93 => ?_)
                      · have hv := hv.1 c_93
                        obtain ⟨x6_94, ex6_94⟩ : ∃ y : Int32, y = x6_27 + 1 := ⟨_, rfl⟩
                        have hv := hv x6_94 ex6_94
                        refine lv_iinc (v := x6_94) (lv' := [(6, .int x6_94), (0, .ref (ad 0)), (1, .int p0), (2, .int p1), (3, .int p2), (4, .int r_7), (5, .int x5_8), (7, .int x7_87)]) hx hb d_md_fresh_167 hl (k := 6) rfl (by rw [ex6_94]; rfl) (by decide) rfl (fun ls hl => ?_)
                        refine lv_goto (tgt := 52) hx hb d_md_fresh_170 (by decide) ?_
                        exact ih52 x6_94 md_monomials_88 md_mono_89 (Nat.lt_of_lt_of_le hv.2 (Nat.le_of_lt_succ hlt52)) hv.1 _ _ _ (hP.sub [0, 1, 2, 3] rfl) (hD.sub [0, 1, 2, 3] (by decide) rfl) hS (lv_sub hl [1, 2, 3, 4, 5, 6, 0] rfl)
                      · have hv := hv.2 c_93
                        refine lv_iconst (v := 0) hx hb d_md_fresh_93 (by decide) ?_
                        refine lv_istore (lv' := [(8, .int 0), (0, .ref (ad 0)), (1, .int p0), (2, .int p1), (3, .int p2), (4, .int r_7), (5, .int x5_8), (6, .int x6_27), (7, .int x7_87)]) hx hb d_md_fresh_94 hl (by decide) rfl (fun ls hl => ?_)
                        obtain ⟨I96_98, mu96_99, hi0, hv⟩ := hv
                        have hP := hP.sub (ws' := [((ad 0), .inr (8, [.int md_thrownCode, .int p0, .int p1, .int p2, .int md_monomials_88, .ref (ad 1), .ref (ad 2), .int 0, .ref (ad 3), .ref (ad 4), .int 0, .int md_upTo, .ref (ad 5), .ref (ad 6), .ref (ad 7), .ref (ad 8), .int md_members, .int md_provedNow])), ((ad 1), .inl (cs 0, 126, .inl md_mono_89)), ((ad 2), .inl (cs 0, 126, .inl md_degree)), ((ad 4), .inl (cs 0, 126, .inl md_hand))]) [0, 1, 2, 3] rfl
                        have hD := hD.sub (ws' := [((ad 0), .inr (8, [.int md_thrownCode, .int p0, .int p1, .int p2, .int md_monomials_88, .ref (ad 1), .ref (ad 2), .int 0, .ref (ad 3), .ref (ad 4), .int 0, .int md_upTo, .ref (ad 5), .ref (ad 6), .ref (ad 7), .ref (ad 8), .int md_members, .int md_provedNow])), ((ad 1), .inl (cs 0, 126, .inl md_mono_89)), ((ad 2), .inl (cs 0, 126, .inl md_degree)), ((ad 4), .inl (cs 0, 126, .inl md_hand))]) [0, 1, 2, 3] (by decide) rfl
                        have hl := lv_sub (l' := [(0, .ref (ad 0)), (1, .int p0), (2, .int p1), (3, .int p2), (4, .int r_7), (5, .int x5_8), (6, .int x6_27), (7, .int x7_87), (8, .int 0)]) hl [1, 2, 3, 4, 5, 6, 7, 8, 0] rfl
                        have loop96 : ∀ (nn : Nat) (x8_95 : Int32) (md_monomials_96 : Int32) (md_mono_97 : Nat → Int32), mu96_99 x8_95 md_monomials_96 md_mono_97 < nn → I96_98 x8_95 md_monomials_96 md_mono_97 → ∀ (H : Heap) (locs : List Loc) (ls : Array Slot), va_P (dC, dI) vwCl [((ad 0), .inr (8, [.int md_thrownCode, .int p0, .int p1, .int p2, .int md_monomials_96, .ref (ad 1), .ref (ad 2), .int 0, .ref (ad 3), .ref (ad 4), .int 0, .int md_upTo, .ref (ad 5), .ref (ad 6), .ref (ad 7), .ref (ad 8), .int md_members, .int md_provedNow])), ((ad 1), .inl (cs 0, 126, .inl md_mono_97)), ((ad 2), .inl (cs 0, 126, .inl md_degree)), ((ad 4), .inl (cs 0, 126, .inl md_hand))] H → va_D A [((ad 0), .inr (8, [.int md_thrownCode, .int p0, .int p1, .int p2, .int md_monomials_96, .ref (ad 1), .ref (ad 2), .int 0, .ref (ad 3), .ref (ad 4), .int 0, .int md_upTo, .ref (ad 5), .ref (ad 6), .ref (ad 7), .ref (ad 8), .int md_members, .int md_provedNow])), ((ad 1), .inl (cs 0, 126, .inl md_mono_97)), ((ad 2), .inl (cs 0, 126, .inl md_degree)), ((ad 4), .inl (cs 0, 126, .inl md_hand))] → va_S A s.heap H locs → lv_has ls 9 [(0, .ref (ad 0)), (1, .int p0), (2, .int p1), (3, .int p2), (4, .int r_7), (5, .int x5_8), (6, .int x6_27), (7, .int x7_87), (8, .int x8_95)] → W p l e (headSpec w_md_fresh { frames := 4, cells := 0, slots := 0, locals := 87 }).room s m ([.ref (ad 0), .int p0, .int p1, .int p2] : List Value).toArray below meth c H locs 0 0 (MQ below (va_Qv (fun (u : Int32 × Int32 × Int32 × Int32 × Int32 × Int32 × (Nat → Int32) × (Nat → Int32) × (Nat → Int32)) => Q u.1 u.2.1 u.2.2.1 u.2.2.2.1 u.2.2.2.2.1 u.2.2.2.2.2.1 u.2.2.2.2.2.2.1 u.2.2.2.2.2.2.2.1 u.2.2.2.2.2.2.2.2) (at_md_fresh dC dI cs A ad md_thrownCode md_upTo md_members md_provedNow) A) ([.ref (ad 0), .int p0, .int p1, .int p2] : List Value).toArray s 0 0 A) (F0 m 96 ls []) := by
                          intro nn
                          induction nn with
                          | zero => intro x8_95 md_monomials_96 md_mono_97 hlt; exact absurd hlt (Nat.not_lt_zero _)
                          | succ nn ih96 =>
                            intro x8_95 md_monomials_96 md_mono_97 hlt96 hI H locs ls hP hD hS hl
                            have hv := hv x8_95 md_monomials_96 md_mono_97 hI
                            refine lv_iload hx hb d_md_fresh_96 (lv_at hl 8 rfl) ?_
                            refine lv_aload_n hx hb d_md_fresh_98 rfl (lv_at hl 0 rfl) ?_
                            refine va_get (D := (dC, dI)) (ci := 8) (v := .int p1) (C := R_md) (T := F_md) (N := 18) hx hb hts in_md hown hK hP 0 rfl rfl 2 (by decide) (hts _ kw_620) (fun _ h9 => h9) rfl d_md_fresh_99 ?_
                            refine lv_iconst (v := 3) hx hb d_md_fresh_102 (by decide) ?_
                            refine lv_icmp_le (tgt := 111) hx hb d_md_fresh_103 (by decide) (fun c_100 => ?_) (fun c_100 => ?_)
                            · have hv := hv.1 c_100
                              refine lv_iconst (v := 0) hx hb d_md_fresh_111 (by decide) ?_
                              refine lv_icmp_gt (tgt := 161) hx hb d_md_fresh_112 (by decide) (fun c_101 => ?_) (fun c_101 => ?_)
                              · have hv := hv.1 c_101
                                obtain ⟨x7_102, ex7_102⟩ : ∃ y : Int32, y = x7_87 + 1 := ⟨_, rfl⟩
                                have hv := hv x7_102 ex7_102
                                refine lv_iinc (v := x7_102) (lv' := [(7, .int x7_102), (0, .ref (ad 0)), (1, .int p0), (2, .int p1), (3, .int p2), (4, .int r_7), (5, .int x5_8), (6, .int x6_27), (8, .int x8_95)]) hx hb d_md_fresh_161 hl (k := 7) rfl (by rw [ex7_102]; rfl) (by decide) rfl (fun ls hl => ?_)
                                refine lv_goto (tgt := 74) hx hb d_md_fresh_164 (by decide) ?_
                                exact ih74 x7_102 md_monomials_96 md_mono_97 (Nat.lt_of_lt_of_le hv.2 (Nat.le_of_lt_succ hlt74)) hv.1 _ _ _ (hP.sub [0, 1, 2, 3] rfl) (hD.sub [0, 1, 2, 3] (by decide) rfl) hS (lv_sub hl [1, 2, 3, 4, 5, 6, 7, 0] rfl)
                              · have hv := hv.2 c_101
                                refine lv_iload hx hb d_md_fresh_115 (lv_at hl 5 rfl) ?_
                                refine lv_iload hx hb d_md_fresh_117 (lv_at hl 6 rfl) ?_
                                refine lv_iadd hx hb d_md_fresh_119 ?_
                                refine lv_iload hx hb d_md_fresh_120 (lv_at hl 7 rfl) ?_
                                refine lv_iadd hx hb d_md_fresh_122 ?_
                                refine lv_iload hx hb d_md_fresh_123 (lv_at hl 8 rfl) ?_
                                refine lv_iadd hx hb d_md_fresh_125 ?_
                                refine lv_iload hx hb d_md_fresh_126 (lv_at hl 4 rfl) ?_
                                refine lv_icmp_gt (tgt := 155) hx hb d_md_fresh_128 (by decide) (fun c_103 => ?_) (fun c_103 => ?_)
                                · have hv := hv.1 c_103
                                  obtain ⟨x8_104, ex8_104⟩ : ∃ y : Int32, y = x8_95 + 1 := ⟨_, rfl⟩
                                  have hv := hv x8_104 ex8_104
                                  refine lv_iinc (v := x8_104) (lv' := [(8, .int x8_104), (0, .ref (ad 0)), (1, .int p0), (2, .int p1), (3, .int p2), (4, .int r_7), (5, .int x5_8), (6, .int x6_27), (7, .int x7_87)]) hx hb d_md_fresh_155 hl (k := 8) rfl (by rw [ex8_104]; rfl) (by decide) rfl (fun ls hl => ?_)
                                  refine lv_goto (tgt := 96) hx hb d_md_fresh_158 (by decide) ?_
                                  exact ih96 x8_104 md_monomials_96 md_mono_97 (Nat.lt_of_lt_of_le hv.2 (Nat.le_of_lt_succ hlt96)) hv.1 _ _ _ (hP.sub [0, 1, 2, 3] rfl) (hD.sub [0, 1, 2, 3] (by decide) rfl) hS (lv_sub hl [1, 2, 3, 4, 5, 6, 7, 8, 0] rfl)
                                · have hv := hv.2 c_103
                                  refine lv_aload_n hx hb d_md_fresh_131 rfl (lv_at hl 0 rfl) ?_
                                  refine lv_iload hx hb d_md_fresh_132 (lv_at hl 5 rfl) ?_
                                  refine lv_bipush (v := 24) hx hb d_md_fresh_134 (by decide) ?_
                                  refine lv_ishl hx hb d_md_fresh_136 ?_
                                  refine lv_iload hx hb d_md_fresh_137 (lv_at hl 6 rfl) ?_
                                  refine lv_bipush (v := 16) hx hb d_md_fresh_139 (by decide) ?_
                                  refine lv_ishl hx hb d_md_fresh_141 ?_
                                  refine lv_ior hx hb d_md_fresh_142 ?_
                                  refine lv_iload hx hb d_md_fresh_143 (lv_at hl 7 rfl) ?_
                                  refine lv_bipush (v := 8) hx hb d_md_fresh_145 (by decide) ?_
                                  refine lv_ishl hx hb d_md_fresh_147 ?_
                                  refine lv_ior hx hb d_md_fresh_148 ?_
                                  refine lv_iload hx hb d_md_fresh_149 (lv_at hl 8 rfl) ?_
                                  refine lv_ior hx hb d_md_fresh_151 ?_
                                  have hPc := hP.sub (ws' := [((ad 0), .inr (8, [.int md_thrownCode, .int p0, .int p1, .int p2, .int md_monomials_96, .ref (ad 1), .ref (ad 2), .int 0, .ref (ad 3), .ref (ad 4), .int 0, .int md_upTo, .ref (ad 5), .ref (ad 6), .ref (ad 7), .ref (ad 8), .int md_members, .int md_provedNow])), ((ad 1), .inl (cs 0, 126, .inl md_mono_97))]) [0, 1] rfl
                                  have hDc := hD.sub (ws' := [((ad 0), .inr (8, [.int md_thrownCode, .int p0, .int p1, .int p2, .int md_monomials_96, .ref (ad 1), .ref (ad 2), .int 0, .ref (ad 3), .ref (ad 4), .int 0, .int md_upTo, .ref (ad 5), .ref (ad 6), .ref (ad 7), .ref (ad 8), .int md_members, .int md_provedNow])), ((ad 1), .inl (cs 0, 126, .inl md_mono_97))]) [0, 1] (by decide) rfl
                                  have hFc := va_free (wc := [((ad 0), .inr (8, [.int md_thrownCode, .int p0, .int p1, .int p2, .int md_monomials_96, .ref (ad 1), .ref (ad 2), .int 0, .ref (ad 3), .ref (ad 4), .int 0, .int md_upTo, .ref (ad 5), .ref (ad 6), .ref (ad 7), .ref (ad 8), .int md_members, .int md_provedNow])), ((ad 1), .inl (cs 0, 126, .inl md_mono_97))]) hD hS hA [0, 1] rfl
                                  refine va_callv (va_runV (As := [.int ((((x5_8 <<< (24 &&& 31)) ||| (x6_27 <<< (16 &&& 31))) ||| (x7_87 <<< (8 &&& 31))) ||| x8_95)]) (rest := []) ⟨hx, hb, hml, hown, hts⟩ (c_md_put l dC dI cs ad  H.size md_thrownCode p0 p1 p2 md_monomials_96 0 0 md_upTo md_members md_provedNow md_mono_97 ((((x5_8 <<< (24 &&& 31)) ||| (x6_27 <<< (16 &&& 31))) ||| (x7_87 <<< (8 &&& 31))) ||| x8_95) _ hv) (cwV 1 hts (gd_V kw_606 kw_607 kw_18 kw_41 kw_608) rfl rfl rfl (by decide +kernel) ⟨Nat.le_of_ble_eq_true rfl, Nat.le_of_ble_eq_true rfl⟩) ⟨fun a U g mk q => by obtain ⟨q0, q1, qP, qK, qD⟩ := q; exact ⟨q0, q1, qP, qK.call, qD⟩, va_recv hK hPc (ci := 8) (q0 := 0) rfl rfl, fun U hU hW => ⟨rfl, by rw [hU], by rw [hU]; exact hPc, vwK.warm hW ⟨hK, hN⟩, hDc.weaken (fun _ _ _ _ => trivial)⟩⟩ rfl rfl hl.1 rfl (lv_room (Nat.le_of_ble_eq_true rfl)) d_md_fresh_152 ⟨Nat.zero_le _, Nat.zero_le _⟩) hS (fun q _ h => hFc q h) hFc (fun u t H1 locs1 ht hvm hw hB hz1 hk1 hS => ?_)
                                  obtain ⟨md_monomials_105, md_mono_106⟩ := u
                                  obtain ⟨hP1, hD1⟩ := hB
                                  rw [ht] at hP1
                                  obtain ⟨hP, hD⟩ := va_join (wr := [((ad 2), .inl (cs 0, 126, .inl md_degree)), ((ad 4), .inl (cs 0, 126, .inl md_hand))]) (w1 := [((ad 0), .inr (8, [.int md_thrownCode, .int p0, .int p1, .int p2, .int md_monomials_105, .ref (ad 1), .ref (ad 2), .int 0, .ref (ad 3), .ref (ad 4), .int 0, .int md_upTo, .ref (ad 5), .ref (ad 6), .ref (ad 7), .ref (ad 8), .int md_members, .int md_provedNow])), ((ad 1), .inl (cs 0, 126, .inl md_mono_106))]) hP hD [0, 1] [2, 3] rfl rfl (by decide) (by decide) hk1 hFc hP1 hD1
                                  generalize H1 = H at hP hS ⊢
                                  generalize locs1 = locs at hS ⊢
                                  have hP : va_P (dC, dI) vwCl [((ad 2), .inl (cs 0, 126, .inl md_degree)), ((ad 4), .inl (cs 0, 126, .inl md_hand)), ((ad 0), .inr (8, [.int md_thrownCode, .int p0, .int p1, .int p2, .int md_monomials_105, .ref (ad 1), .ref (ad 2), .int 0, .ref (ad 3), .ref (ad 4), .int 0, .int md_upTo, .ref (ad 5), .ref (ad 6), .ref (ad 7), .ref (ad 8), .int md_members, .int md_provedNow])), ((ad 1), .inl (cs 0, 126, .inl md_mono_106))] H := hP
                                  have hD : va_D A [((ad 2), .inl (cs 0, 126, .inl md_degree)), ((ad 4), .inl (cs 0, 126, .inl md_hand)), ((ad 0), .inr (8, [.int md_thrownCode, .int p0, .int p1, .int p2, .int md_monomials_105, .ref (ad 1), .ref (ad 2), .int 0, .ref (ad 3), .ref (ad 4), .int 0, .int md_upTo, .ref (ad 5), .ref (ad 6), .ref (ad 7), .ref (ad 8), .int md_members, .int md_provedNow])), ((ad 1), .inl (cs 0, 126, .inl md_mono_106))] := hD
                                  have hv := hw
                                  try dsimp only at hv
                                  obtain ⟨x8_107, ex8_107⟩ : ∃ y : Int32, y = x8_95 + 1 := ⟨_, rfl⟩
                                  have hv := hv x8_107 ex8_107
                                  refine lv_iinc (v := x8_107) (lv' := [(8, .int x8_107), (0, .ref (ad 0)), (1, .int p0), (2, .int p1), (3, .int p2), (4, .int r_7), (5, .int x5_8), (6, .int x6_27), (7, .int x7_87)]) hx hb d_md_fresh_155 hl (k := 8) rfl (by rw [ex8_107]; rfl) (by decide) rfl (fun ls hl => ?_)
                                  refine lv_goto (tgt := 96) hx hb d_md_fresh_158 (by decide) ?_
                                  exact ih96 x8_107 md_monomials_105 md_mono_106 (Nat.lt_of_lt_of_le hv.2 (Nat.le_of_lt_succ hlt96)) hv.1 _ _ _ (hP.sub [2, 3, 0, 1] rfl) (hD.sub [2, 3, 0, 1] (by decide) rfl) hS (lv_sub hl [1, 2, 3, 4, 5, 6, 7, 8, 0] rfl)
                            · have hv := hv.2 c_100
                              refine lv_iload hx hb d_md_fresh_106 (lv_at hl 4 rfl) ?_
                              refine lv_goto (tgt := 112) hx hb d_md_fresh_108 (by decide) ?_
                              refine lv_icmp_gt (tgt := 161) hx hb d_md_fresh_112 (by decide) (fun c_108 => ?_) (fun c_108 => ?_)
                              · have hv := hv.1 c_108
                                obtain ⟨x7_109, ex7_109⟩ : ∃ y : Int32, y = x7_87 + 1 := ⟨_, rfl⟩
                                have hv := hv x7_109 ex7_109
                                refine lv_iinc (v := x7_109) (lv' := [(7, .int x7_109), (0, .ref (ad 0)), (1, .int p0), (2, .int p1), (3, .int p2), (4, .int r_7), (5, .int x5_8), (6, .int x6_27), (8, .int x8_95)]) hx hb d_md_fresh_161 hl (k := 7) rfl (by rw [ex7_109]; rfl) (by decide) rfl (fun ls hl => ?_)
                                refine lv_goto (tgt := 74) hx hb d_md_fresh_164 (by decide) ?_
                                exact ih74 x7_109 md_monomials_96 md_mono_97 (Nat.lt_of_lt_of_le hv.2 (Nat.le_of_lt_succ hlt74)) hv.1 _ _ _ (hP.sub [0, 1, 2, 3] rfl) (hD.sub [0, 1, 2, 3] (by decide) rfl) hS (lv_sub hl [1, 2, 3, 4, 5, 6, 7, 0] rfl)
                              · have hv := hv.2 c_108
                                refine lv_iload hx hb d_md_fresh_115 (lv_at hl 5 rfl) ?_
                                refine lv_iload hx hb d_md_fresh_117 (lv_at hl 6 rfl) ?_
                                refine lv_iadd hx hb d_md_fresh_119 ?_
                                refine lv_iload hx hb d_md_fresh_120 (lv_at hl 7 rfl) ?_
                                refine lv_iadd hx hb d_md_fresh_122 ?_
                                refine lv_iload hx hb d_md_fresh_123 (lv_at hl 8 rfl) ?_
                                refine lv_iadd hx hb d_md_fresh_125 ?_
                                refine lv_iload hx hb d_md_fresh_126 (lv_at hl 4 rfl) ?_
                                refine lv_icmp_gt (tgt := 155) hx hb d_md_fresh_128 (by decide) (fun c_110 => ?_) (fun c_110 => ?_)
                                · have hv := hv.1 c_110
                                  obtain ⟨x8_111, ex8_111⟩ : ∃ y : Int32, y = x8_95 + 1 := ⟨_, rfl⟩
                                  have hv := hv x8_111 ex8_111
                                  refine lv_iinc (v := x8_111) (lv' := [(8, .int x8_111), (0, .ref (ad 0)), (1, .int p0), (2, .int p1), (3, .int p2), (4, .int r_7), (5, .int x5_8), (6, .int x6_27), (7, .int x7_87)]) hx hb d_md_fresh_155 hl (k := 8) rfl (by rw [ex8_111]; rfl) (by decide) rfl (fun ls hl => ?_)
                                  refine lv_goto (tgt := 96) hx hb d_md_fresh_158 (by decide) ?_
                                  exact ih96 x8_111 md_monomials_96 md_mono_97 (Nat.lt_of_lt_of_le hv.2 (Nat.le_of_lt_succ hlt96)) hv.1 _ _ _ (hP.sub [0, 1, 2, 3] rfl) (hD.sub [0, 1, 2, 3] (by decide) rfl) hS (lv_sub hl [1, 2, 3, 4, 5, 6, 7, 8, 0] rfl)
                                · have hv := hv.2 c_110
                                  refine lv_aload_n hx hb d_md_fresh_131 rfl (lv_at hl 0 rfl) ?_
                                  refine lv_iload hx hb d_md_fresh_132 (lv_at hl 5 rfl) ?_
                                  refine lv_bipush (v := 24) hx hb d_md_fresh_134 (by decide) ?_
                                  refine lv_ishl hx hb d_md_fresh_136 ?_
                                  refine lv_iload hx hb d_md_fresh_137 (lv_at hl 6 rfl) ?_
                                  refine lv_bipush (v := 16) hx hb d_md_fresh_139 (by decide) ?_
                                  refine lv_ishl hx hb d_md_fresh_141 ?_
                                  refine lv_ior hx hb d_md_fresh_142 ?_
                                  refine lv_iload hx hb d_md_fresh_143 (lv_at hl 7 rfl) ?_
                                  refine lv_bipush (v := 8) hx hb d_md_fresh_145 (by decide) ?_
                                  refine lv_ishl hx hb d_md_fresh_147 ?_
                                  refine lv_ior hx hb d_md_fresh_148 ?_
                                  refine lv_iload hx hb d_md_fresh_149 (lv_at hl 8 rfl) ?_
                                  refine lv_ior hx hb d_md_fresh_151 ?_
                                  have hPc := hP.sub (ws' := [((ad 0), .inr (8, [.int md_thrownCode, .int p0, .int p1, .int p2, .int md_monomials_96, .ref (ad 1), .ref (ad 2), .int 0, .ref (ad 3), .ref (ad 4), .int 0, .int md_upTo, .ref (ad 5), .ref (ad 6), .ref (ad 7), .ref (ad 8), .int md_members, .int md_provedNow])), ((ad 1), .inl (cs 0, 126, .inl md_mono_97))]) [0, 1] rfl
                                  have hDc := hD.sub (ws' := [((ad 0), .inr (8, [.int md_thrownCode, .int p0, .int p1, .int p2, .int md_monomials_96, .ref (ad 1), .ref (ad 2), .int 0, .ref (ad 3), .ref (ad 4), .int 0, .int md_upTo, .ref (ad 5), .ref (ad 6), .ref (ad 7), .ref (ad 8), .int md_members, .int md_provedNow])), ((ad 1), .inl (cs 0, 126, .inl md_mono_97))]) [0, 1] (by decide) rfl
                                  have hFc := va_free (wc := [((ad 0), .inr (8, [.int md_thrownCode, .int p0, .int p1, .int p2, .int md_monomials_96, .ref (ad 1), .ref (ad 2), .int 0, .ref (ad 3), .ref (ad 4), .int 0, .int md_upTo, .ref (ad 5), .ref (ad 6), .ref (ad 7), .ref (ad 8), .int md_members, .int md_provedNow])), ((ad 1), .inl (cs 0, 126, .inl md_mono_97))]) hD hS hA [0, 1] rfl
                                  refine va_callv (va_runV (As := [.int ((((x5_8 <<< (24 &&& 31)) ||| (x6_27 <<< (16 &&& 31))) ||| (x7_87 <<< (8 &&& 31))) ||| x8_95)]) (rest := []) ⟨hx, hb, hml, hown, hts⟩ (c_md_put l dC dI cs ad  H.size md_thrownCode p0 p1 p2 md_monomials_96 0 0 md_upTo md_members md_provedNow md_mono_97 ((((x5_8 <<< (24 &&& 31)) ||| (x6_27 <<< (16 &&& 31))) ||| (x7_87 <<< (8 &&& 31))) ||| x8_95) _ hv) (cwV 1 hts (gd_V kw_606 kw_607 kw_18 kw_41 kw_608) rfl rfl rfl (by decide +kernel) ⟨Nat.le_of_ble_eq_true rfl, Nat.le_of_ble_eq_true rfl⟩) ⟨fun a U g mk q => by obtain ⟨q0, q1, qP, qK, qD⟩ := q; exact ⟨q0, q1, qP, qK.call, qD⟩, va_recv hK hPc (ci := 8) (q0 := 0) rfl rfl, fun U hU hW => ⟨rfl, by rw [hU], by rw [hU]; exact hPc, vwK.warm hW ⟨hK, hN⟩, hDc.weaken (fun _ _ _ _ => trivial)⟩⟩ rfl rfl hl.1 rfl (lv_room (Nat.le_of_ble_eq_true rfl)) d_md_fresh_152 ⟨Nat.zero_le _, Nat.zero_le _⟩) hS (fun q _ h => hFc q h) hFc (fun u t H1 locs1 ht hvm hw hB hz1 hk1 hS => ?_)
                                  obtain ⟨md_monomials_112, md_mono_113⟩ := u
                                  obtain ⟨hP1, hD1⟩ := hB
                                  rw [ht] at hP1
                                  obtain ⟨hP, hD⟩ := va_join (wr := [((ad 2), .inl (cs 0, 126, .inl md_degree)), ((ad 4), .inl (cs 0, 126, .inl md_hand))]) (w1 := [((ad 0), .inr (8, [.int md_thrownCode, .int p0, .int p1, .int p2, .int md_monomials_112, .ref (ad 1), .ref (ad 2), .int 0, .ref (ad 3), .ref (ad 4), .int 0, .int md_upTo, .ref (ad 5), .ref (ad 6), .ref (ad 7), .ref (ad 8), .int md_members, .int md_provedNow])), ((ad 1), .inl (cs 0, 126, .inl md_mono_113))]) hP hD [0, 1] [2, 3] rfl rfl (by decide) (by decide) hk1 hFc hP1 hD1
                                  generalize H1 = H at hP hS ⊢
                                  generalize locs1 = locs at hS ⊢
                                  have hP : va_P (dC, dI) vwCl [((ad 2), .inl (cs 0, 126, .inl md_degree)), ((ad 4), .inl (cs 0, 126, .inl md_hand)), ((ad 0), .inr (8, [.int md_thrownCode, .int p0, .int p1, .int p2, .int md_monomials_112, .ref (ad 1), .ref (ad 2), .int 0, .ref (ad 3), .ref (ad 4), .int 0, .int md_upTo, .ref (ad 5), .ref (ad 6), .ref (ad 7), .ref (ad 8), .int md_members, .int md_provedNow])), ((ad 1), .inl (cs 0, 126, .inl md_mono_113))] H := hP
                                  have hD : va_D A [((ad 2), .inl (cs 0, 126, .inl md_degree)), ((ad 4), .inl (cs 0, 126, .inl md_hand)), ((ad 0), .inr (8, [.int md_thrownCode, .int p0, .int p1, .int p2, .int md_monomials_112, .ref (ad 1), .ref (ad 2), .int 0, .ref (ad 3), .ref (ad 4), .int 0, .int md_upTo, .ref (ad 5), .ref (ad 6), .ref (ad 7), .ref (ad 8), .int md_members, .int md_provedNow])), ((ad 1), .inl (cs 0, 126, .inl md_mono_113))] := hD
                                  have hv := hw
                                  try dsimp only at hv
                                  obtain ⟨x8_114, ex8_114⟩ : ∃ y : Int32, y = x8_95 + 1 := ⟨_, rfl⟩
                                  have hv := hv x8_114 ex8_114
                                  refine lv_iinc (v := x8_114) (lv' := [(8, .int x8_114), (0, .ref (ad 0)), (1, .int p0), (2, .int p1), (3, .int p2), (4, .int r_7), (5, .int x5_8), (6, .int x6_27), (7, .int x7_87)]) hx hb d_md_fresh_155 hl (k := 8) rfl (by rw [ex8_114]; rfl) (by decide) rfl (fun ls hl => ?_)
                                  refine lv_goto (tgt := 96) hx hb d_md_fresh_158 (by decide) ?_
                                  exact ih96 x8_114 md_monomials_112 md_mono_113 (Nat.lt_of_lt_of_le hv.2 (Nat.le_of_lt_succ hlt96)) hv.1 _ _ _ (hP.sub [2, 3, 0, 1] rfl) (hD.sub [2, 3, 0, 1] (by decide) rfl) hS (lv_sub hl [1, 2, 3, 4, 5, 6, 7, 8, 0] rfl)
                        exact loop96 _ 0 md_monomials_88 md_mono_89 (Nat.lt_succ_self _) hi0 _ _ _ hP hD hS hl
                    · have hv := hv.2 c_92
                      refine lv_iload hx hb d_md_fresh_84 (lv_at hl 4 rfl) ?_
                      refine lv_goto (tgt := 90) hx hb d_md_fresh_86 (by decide) ?_
                      refine lv_icmp_gt (tgt := 167) hx hb d_md_fresh_90 (by decide) (fun c_115 => ?_) (fun c_115 => ?_)
                      · have hv := hv.1 c_115
                        obtain ⟨x6_116, ex6_116⟩ : ∃ y : Int32, y = x6_27 + 1 := ⟨_, rfl⟩
                        have hv := hv x6_116 ex6_116
                        refine lv_iinc (v := x6_116) (lv' := [(6, .int x6_116), (0, .ref (ad 0)), (1, .int p0), (2, .int p1), (3, .int p2), (4, .int r_7), (5, .int x5_8), (7, .int x7_87)]) hx hb d_md_fresh_167 hl (k := 6) rfl (by rw [ex6_116]; rfl) (by decide) rfl (fun ls hl => ?_)
                        refine lv_goto (tgt := 52) hx hb d_md_fresh_170 (by decide) ?_
                        exact ih52 x6_116 md_monomials_88 md_mono_89 (Nat.lt_of_lt_of_le hv.2 (Nat.le_of_lt_succ hlt52)) hv.1 _ _ _ (hP.sub [0, 1, 2, 3] rfl) (hD.sub [0, 1, 2, 3] (by decide) rfl) hS (lv_sub hl [1, 2, 3, 4, 5, 6, 0] rfl)
                      · have hv := hv.2 c_115
                        refine lv_iconst (v := 0) hx hb d_md_fresh_93 (by decide) ?_
                        refine lv_istore (lv' := [(8, .int 0), (0, .ref (ad 0)), (1, .int p0), (2, .int p1), (3, .int p2), (4, .int r_7), (5, .int x5_8), (6, .int x6_27), (7, .int x7_87)]) hx hb d_md_fresh_94 hl (by decide) rfl (fun ls hl => ?_)
                        obtain ⟨I96_120, mu96_121, hi0, hv⟩ := hv
                        have hP := hP.sub (ws' := [((ad 0), .inr (8, [.int md_thrownCode, .int p0, .int p1, .int p2, .int md_monomials_88, .ref (ad 1), .ref (ad 2), .int 0, .ref (ad 3), .ref (ad 4), .int 0, .int md_upTo, .ref (ad 5), .ref (ad 6), .ref (ad 7), .ref (ad 8), .int md_members, .int md_provedNow])), ((ad 1), .inl (cs 0, 126, .inl md_mono_89)), ((ad 2), .inl (cs 0, 126, .inl md_degree)), ((ad 4), .inl (cs 0, 126, .inl md_hand))]) [0, 1, 2, 3] rfl
                        have hD := hD.sub (ws' := [((ad 0), .inr (8, [.int md_thrownCode, .int p0, .int p1, .int p2, .int md_monomials_88, .ref (ad 1), .ref (ad 2), .int 0, .ref (ad 3), .ref (ad 4), .int 0, .int md_upTo, .ref (ad 5), .ref (ad 6), .ref (ad 7), .ref (ad 8), .int md_members, .int md_provedNow])), ((ad 1), .inl (cs 0, 126, .inl md_mono_89)), ((ad 2), .inl (cs 0, 126, .inl md_degree)), ((ad 4), .inl (cs 0, 126, .inl md_hand))]) [0, 1, 2, 3] (by decide) rfl
                        have hl := lv_sub (l' := [(0, .ref (ad 0)), (1, .int p0), (2, .int p1), (3, .int p2), (4, .int r_7), (5, .int x5_8), (6, .int x6_27), (7, .int x7_87), (8, .int 0)]) hl [1, 2, 3, 4, 5, 6, 7, 8, 0] rfl
                        have loop96 : ∀ (nn : Nat) (x8_117 : Int32) (md_monomials_118 : Int32) (md_mono_119 : Nat → Int32), mu96_121 x8_117 md_monomials_118 md_mono_119 < nn → I96_120 x8_117 md_monomials_118 md_mono_119 → ∀ (H : Heap) (locs : List Loc) (ls : Array Slot), va_P (dC, dI) vwCl [((ad 0), .inr (8, [.int md_thrownCode, .int p0, .int p1, .int p2, .int md_monomials_118, .ref (ad 1), .ref (ad 2), .int 0, .ref (ad 3), .ref (ad 4), .int 0, .int md_upTo, .ref (ad 5), .ref (ad 6), .ref (ad 7), .ref (ad 8), .int md_members, .int md_provedNow])), ((ad 1), .inl (cs 0, 126, .inl md_mono_119)), ((ad 2), .inl (cs 0, 126, .inl md_degree)), ((ad 4), .inl (cs 0, 126, .inl md_hand))] H → va_D A [((ad 0), .inr (8, [.int md_thrownCode, .int p0, .int p1, .int p2, .int md_monomials_118, .ref (ad 1), .ref (ad 2), .int 0, .ref (ad 3), .ref (ad 4), .int 0, .int md_upTo, .ref (ad 5), .ref (ad 6), .ref (ad 7), .ref (ad 8), .int md_members, .int md_provedNow])), ((ad 1), .inl (cs 0, 126, .inl md_mono_119)), ((ad 2), .inl (cs 0, 126, .inl md_degree)), ((ad 4), .inl (cs 0, 126, .inl md_hand))] → va_S A s.heap H locs → lv_has ls 9 [(0, .ref (ad 0)), (1, .int p0), (2, .int p1), (3, .int p2), (4, .int r_7), (5, .int x5_8), (6, .int x6_27), (7, .int x7_87), (8, .int x8_117)] → W p l e (headSpec w_md_fresh { frames := 4, cells := 0, slots := 0, locals := 87 }).room s m ([.ref (ad 0), .int p0, .int p1, .int p2] : List Value).toArray below meth c H locs 0 0 (MQ below (va_Qv (fun (u : Int32 × Int32 × Int32 × Int32 × Int32 × Int32 × (Nat → Int32) × (Nat → Int32) × (Nat → Int32)) => Q u.1 u.2.1 u.2.2.1 u.2.2.2.1 u.2.2.2.2.1 u.2.2.2.2.2.1 u.2.2.2.2.2.2.1 u.2.2.2.2.2.2.2.1 u.2.2.2.2.2.2.2.2) (at_md_fresh dC dI cs A ad md_thrownCode md_upTo md_members md_provedNow) A) ([.ref (ad 0), .int p0, .int p1, .int p2] : List Value).toArray s 0 0 A) (F0 m 96 ls []) := by
                          intro nn
                          induction nn with
                          | zero => intro x8_117 md_monomials_118 md_mono_119 hlt; exact absurd hlt (Nat.not_lt_zero _)
                          | succ nn ih96 =>
                            intro x8_117 md_monomials_118 md_mono_119 hlt96 hI H locs ls hP hD hS hl
                            have hv := hv x8_117 md_monomials_118 md_mono_119 hI
                            refine lv_iload hx hb d_md_fresh_96 (lv_at hl 8 rfl) ?_
                            refine lv_aload_n hx hb d_md_fresh_98 rfl (lv_at hl 0 rfl) ?_
                            refine va_get (D := (dC, dI)) (ci := 8) (v := .int p1) (C := R_md) (T := F_md) (N := 18) hx hb hts in_md hown hK hP 0 rfl rfl 2 (by decide) (hts _ kw_620) (fun _ h9 => h9) rfl d_md_fresh_99 ?_
                            refine lv_iconst (v := 3) hx hb d_md_fresh_102 (by decide) ?_
                            refine lv_icmp_le (tgt := 111) hx hb d_md_fresh_103 (by decide) (fun c_122 => ?_) (fun c_122 => ?_)
                            · have hv := hv.1 c_122
                              refine lv_iconst (v := 0) hx hb d_md_fresh_111 (by decide) ?_
                              refine lv_icmp_gt (tgt := 161) hx hb d_md_fresh_112 (by decide) (fun c_123 => ?_) (fun c_123 => ?_)
                              · have hv := hv.1 c_123
                                obtain ⟨x7_124, ex7_124⟩ : ∃ y : Int32, y = x7_87 + 1 := ⟨_, rfl⟩
                                have hv := hv x7_124 ex7_124
                                refine lv_iinc (v := x7_124) (lv' := [(7, .int x7_124), (0, .ref (ad 0)), (1, .int p0), (2, .int p1), (3, .int p2), (4, .int r_7), (5, .int x5_8), (6, .int x6_27), (8, .int x8_117)]) hx hb d_md_fresh_161 hl (k := 7) rfl (by rw [ex7_124]; rfl) (by decide) rfl (fun ls hl => ?_)
                                refine lv_goto (tgt := 74) hx hb d_md_fresh_164 (by decide) ?_
                                exact ih74 x7_124 md_monomials_118 md_mono_119 (Nat.lt_of_lt_of_le hv.2 (Nat.le_of_lt_succ hlt74)) hv.1 _ _ _ (hP.sub [0, 1, 2, 3] rfl) (hD.sub [0, 1, 2, 3] (by decide) rfl) hS (lv_sub hl [1, 2, 3, 4, 5, 6, 7, 0] rfl)
                              · have hv := hv.2 c_123
                                refine lv_iload hx hb d_md_fresh_115 (lv_at hl 5 rfl) ?_
                                refine lv_iload hx hb d_md_fresh_117 (lv_at hl 6 rfl) ?_
                                refine lv_iadd hx hb d_md_fresh_119 ?_
                                refine lv_iload hx hb d_md_fresh_120 (lv_at hl 7 rfl) ?_
                                refine lv_iadd hx hb d_md_fresh_122 ?_
                                refine lv_iload hx hb d_md_fresh_123 (lv_at hl 8 rfl) ?_
                                refine lv_iadd hx hb d_md_fresh_125 ?_
                                refine lv_iload hx hb d_md_fresh_126 (lv_at hl 4 rfl) ?_
                                refine lv_icmp_gt (tgt := 155) hx hb d_md_fresh_128 (by decide) (fun c_125 => ?_) (fun c_125 => ?_)
                                · have hv := hv.1 c_125
                                  obtain ⟨x8_126, ex8_126⟩ : ∃ y : Int32, y = x8_117 + 1 := ⟨_, rfl⟩
                                  have hv := hv x8_126 ex8_126
                                  refine lv_iinc (v := x8_126) (lv' := [(8, .int x8_126), (0, .ref (ad 0)), (1, .int p0), (2, .int p1), (3, .int p2), (4, .int r_7), (5, .int x5_8), (6, .int x6_27), (7, .int x7_87)]) hx hb d_md_fresh_155 hl (k := 8) rfl (by rw [ex8_126]; rfl) (by decide) rfl (fun ls hl => ?_)
                                  refine lv_goto (tgt := 96) hx hb d_md_fresh_158 (by decide) ?_
                                  exact ih96 x8_126 md_monomials_118 md_mono_119 (Nat.lt_of_lt_of_le hv.2 (Nat.le_of_lt_succ hlt96)) hv.1 _ _ _ (hP.sub [0, 1, 2, 3] rfl) (hD.sub [0, 1, 2, 3] (by decide) rfl) hS (lv_sub hl [1, 2, 3, 4, 5, 6, 7, 8, 0] rfl)
                                · have hv := hv.2 c_125
                                  refine lv_aload_n hx hb d_md_fresh_131 rfl (lv_at hl 0 rfl) ?_
                                  refine lv_iload hx hb d_md_fresh_132 (lv_at hl 5 rfl) ?_
                                  refine lv_bipush (v := 24) hx hb d_md_fresh_134 (by decide) ?_
                                  refine lv_ishl hx hb d_md_fresh_136 ?_
                                  refine lv_iload hx hb d_md_fresh_137 (lv_at hl 6 rfl) ?_
                                  refine lv_bipush (v := 16) hx hb d_md_fresh_139 (by decide) ?_
                                  refine lv_ishl hx hb d_md_fresh_141 ?_
                                  refine lv_ior hx hb d_md_fresh_142 ?_
                                  refine lv_iload hx hb d_md_fresh_143 (lv_at hl 7 rfl) ?_
                                  refine lv_bipush (v := 8) hx hb d_md_fresh_145 (by decide) ?_
                                  refine lv_ishl hx hb d_md_fresh_147 ?_
                                  refine lv_ior hx hb d_md_fresh_148 ?_
                                  refine lv_iload hx hb d_md_fresh_149 (lv_at hl 8 rfl) ?_
                                  refine lv_ior hx hb d_md_fresh_151 ?_
                                  have hPc := hP.sub (ws' := [((ad 0), .inr (8, [.int md_thrownCode, .int p0, .int p1, .int p2, .int md_monomials_118, .ref (ad 1), .ref (ad 2), .int 0, .ref (ad 3), .ref (ad 4), .int 0, .int md_upTo, .ref (ad 5), .ref (ad 6), .ref (ad 7), .ref (ad 8), .int md_members, .int md_provedNow])), ((ad 1), .inl (cs 0, 126, .inl md_mono_119))]) [0, 1] rfl
                                  have hDc := hD.sub (ws' := [((ad 0), .inr (8, [.int md_thrownCode, .int p0, .int p1, .int p2, .int md_monomials_118, .ref (ad 1), .ref (ad 2), .int 0, .ref (ad 3), .ref (ad 4), .int 0, .int md_upTo, .ref (ad 5), .ref (ad 6), .ref (ad 7), .ref (ad 8), .int md_members, .int md_provedNow])), ((ad 1), .inl (cs 0, 126, .inl md_mono_119))]) [0, 1] (by decide) rfl
                                  have hFc := va_free (wc := [((ad 0), .inr (8, [.int md_thrownCode, .int p0, .int p1, .int p2, .int md_monomials_118, .ref (ad 1), .ref (ad 2), .int 0, .ref (ad 3), .ref (ad 4), .int 0, .int md_upTo, .ref (ad 5), .ref (ad 6), .ref (ad 7), .ref (ad 8), .int md_members, .int md_provedNow])), ((ad 1), .inl (cs 0, 126, .inl md_mono_119))]) hD hS hA [0, 1] rfl
                                  refine va_callv (va_runV (As := [.int ((((x5_8 <<< (24 &&& 31)) ||| (x6_27 <<< (16 &&& 31))) ||| (x7_87 <<< (8 &&& 31))) ||| x8_117)]) (rest := []) ⟨hx, hb, hml, hown, hts⟩ (c_md_put l dC dI cs ad  H.size md_thrownCode p0 p1 p2 md_monomials_118 0 0 md_upTo md_members md_provedNow md_mono_119 ((((x5_8 <<< (24 &&& 31)) ||| (x6_27 <<< (16 &&& 31))) ||| (x7_87 <<< (8 &&& 31))) ||| x8_117) _ hv) (cwV 1 hts (gd_V kw_606 kw_607 kw_18 kw_41 kw_608) rfl rfl rfl (by decide +kernel) ⟨Nat.le_of_ble_eq_true rfl, Nat.le_of_ble_eq_true rfl⟩) ⟨fun a U g mk q => by obtain ⟨q0, q1, qP, qK, qD⟩ := q; exact ⟨q0, q1, qP, qK.call, qD⟩, va_recv hK hPc (ci := 8) (q0 := 0) rfl rfl, fun U hU hW => ⟨rfl, by rw [hU], by rw [hU]; exact hPc, vwK.warm hW ⟨hK, hN⟩, hDc.weaken (fun _ _ _ _ => trivial)⟩⟩ rfl rfl hl.1 rfl (lv_room (Nat.le_of_ble_eq_true rfl)) d_md_fresh_152 ⟨Nat.zero_le _, Nat.zero_le _⟩) hS (fun q _ h => hFc q h) hFc (fun u t H1 locs1 ht hvm hw hB hz1 hk1 hS => ?_)
                                  obtain ⟨md_monomials_127, md_mono_128⟩ := u
                                  obtain ⟨hP1, hD1⟩ := hB
                                  rw [ht] at hP1
                                  obtain ⟨hP, hD⟩ := va_join (wr := [((ad 2), .inl (cs 0, 126, .inl md_degree)), ((ad 4), .inl (cs 0, 126, .inl md_hand))]) (w1 := [((ad 0), .inr (8, [.int md_thrownCode, .int p0, .int p1, .int p2, .int md_monomials_127, .ref (ad 1), .ref (ad 2), .int 0, .ref (ad 3), .ref (ad 4), .int 0, .int md_upTo, .ref (ad 5), .ref (ad 6), .ref (ad 7), .ref (ad 8), .int md_members, .int md_provedNow])), ((ad 1), .inl (cs 0, 126, .inl md_mono_128))]) hP hD [0, 1] [2, 3] rfl rfl (by decide) (by decide) hk1 hFc hP1 hD1
                                  generalize H1 = H at hP hS ⊢
                                  generalize locs1 = locs at hS ⊢
                                  have hP : va_P (dC, dI) vwCl [((ad 2), .inl (cs 0, 126, .inl md_degree)), ((ad 4), .inl (cs 0, 126, .inl md_hand)), ((ad 0), .inr (8, [.int md_thrownCode, .int p0, .int p1, .int p2, .int md_monomials_127, .ref (ad 1), .ref (ad 2), .int 0, .ref (ad 3), .ref (ad 4), .int 0, .int md_upTo, .ref (ad 5), .ref (ad 6), .ref (ad 7), .ref (ad 8), .int md_members, .int md_provedNow])), ((ad 1), .inl (cs 0, 126, .inl md_mono_128))] H := hP
                                  have hD : va_D A [((ad 2), .inl (cs 0, 126, .inl md_degree)), ((ad 4), .inl (cs 0, 126, .inl md_hand)), ((ad 0), .inr (8, [.int md_thrownCode, .int p0, .int p1, .int p2, .int md_monomials_127, .ref (ad 1), .ref (ad 2), .int 0, .ref (ad 3), .ref (ad 4), .int 0, .int md_upTo, .ref (ad 5), .ref (ad 6), .ref (ad 7), .ref (ad 8), .int md_members, .int md_provedNow])), ((ad 1), .inl (cs 0, 126, .inl md_mono_128))] := hD
                                  have hv := hw
                                  try dsimp only at hv
                                  obtain ⟨x8_129, ex8_129⟩ : ∃ y : Int32, y = x8_117 + 1 := ⟨_, rfl⟩
                                  have hv := hv x8_129 ex8_129
                                  refine lv_iinc (v := x8_129) (lv' := [(8, .int x8_129), (0, .ref (ad 0)), (1, .int p0), (2, .int p1), (3, .int p2), (4, .int r_7), (5, .int x5_8), (6, .int x6_27), (7, .int x7_87)]) hx hb d_md_fresh_155 hl (k := 8) rfl (by rw [ex8_129]; rfl) (by decide) rfl (fun ls hl => ?_)
                                  refine lv_goto (tgt := 96) hx hb d_md_fresh_158 (by decide) ?_
                                  exact ih96 x8_129 md_monomials_127 md_mono_128 (Nat.lt_of_lt_of_le hv.2 (Nat.le_of_lt_succ hlt96)) hv.1 _ _ _ (hP.sub [2, 3, 0, 1] rfl) (hD.sub [2, 3, 0, 1] (by decide) rfl) hS (lv_sub hl [1, 2, 3, 4, 5, 6, 7, 8, 0] rfl)
                            · have hv := hv.2 c_122
                              refine lv_iload hx hb d_md_fresh_106 (lv_at hl 4 rfl) ?_
                              refine lv_goto (tgt := 112) hx hb d_md_fresh_108 (by decide) ?_
                              refine lv_icmp_gt (tgt := 161) hx hb d_md_fresh_112 (by decide) (fun c_130 => ?_) (fun c_130 => ?_)
                              · have hv := hv.1 c_130
                                obtain ⟨x7_131, ex7_131⟩ : ∃ y : Int32, y = x7_87 + 1 := ⟨_, rfl⟩
                                have hv := hv x7_131 ex7_131
                                refine lv_iinc (v := x7_131) (lv' := [(7, .int x7_131), (0, .ref (ad 0)), (1, .int p0), (2, .int p1), (3, .int p2), (4, .int r_7), (5, .int x5_8), (6, .int x6_27), (8, .int x8_117)]) hx hb d_md_fresh_161 hl (k := 7) rfl (by rw [ex7_131]; rfl) (by decide) rfl (fun ls hl => ?_)
                                refine lv_goto (tgt := 74) hx hb d_md_fresh_164 (by decide) ?_
                                exact ih74 x7_131 md_monomials_118 md_mono_119 (Nat.lt_of_lt_of_le hv.2 (Nat.le_of_lt_succ hlt74)) hv.1 _ _ _ (hP.sub [0, 1, 2, 3] rfl) (hD.sub [0, 1, 2, 3] (by decide) rfl) hS (lv_sub hl [1, 2, 3, 4, 5, 6, 7, 0] rfl)
                              · have hv := hv.2 c_130
                                refine lv_iload hx hb d_md_fresh_115 (lv_at hl 5 rfl) ?_
                                refine lv_iload hx hb d_md_fresh_117 (lv_at hl 6 rfl) ?_
                                refine lv_iadd hx hb d_md_fresh_119 ?_
                                refine lv_iload hx hb d_md_fresh_120 (lv_at hl 7 rfl) ?_
                                refine lv_iadd hx hb d_md_fresh_122 ?_
                                refine lv_iload hx hb d_md_fresh_123 (lv_at hl 8 rfl) ?_
                                refine lv_iadd hx hb d_md_fresh_125 ?_
                                refine lv_iload hx hb d_md_fresh_126 (lv_at hl 4 rfl) ?_
                                refine lv_icmp_gt (tgt := 155) hx hb d_md_fresh_128 (by decide) (fun c_132 => ?_) (fun c_132 => ?_)
                                · have hv := hv.1 c_132
                                  obtain ⟨x8_133, ex8_133⟩ : ∃ y : Int32, y = x8_117 + 1 := ⟨_, rfl⟩
                                  have hv := hv x8_133 ex8_133
                                  refine lv_iinc (v := x8_133) (lv' := [(8, .int x8_133), (0, .ref (ad 0)), (1, .int p0), (2, .int p1), (3, .int p2), (4, .int r_7), (5, .int x5_8), (6, .int x6_27), (7, .int x7_87)]) hx hb d_md_fresh_155 hl (k := 8) rfl (by rw [ex8_133]; rfl) (by decide) rfl (fun ls hl => ?_)
                                  refine lv_goto (tgt := 96) hx hb d_md_fresh_158 (by decide) ?_
                                  exact ih96 x8_133 md_monomials_118 md_mono_119 (Nat.lt_of_lt_of_le hv.2 (Nat.le_of_lt_succ hlt96)) hv.1 _ _ _ (hP.sub [0, 1, 2, 3] rfl) (hD.sub [0, 1, 2, 3] (by decide) rfl) hS (lv_sub hl [1, 2, 3, 4, 5, 6, 7, 8, 0] rfl)
                                · have hv := hv.2 c_132
                                  refine lv_aload_n hx hb d_md_fresh_131 rfl (lv_at hl 0 rfl) ?_
                                  refine lv_iload hx hb d_md_fresh_132 (lv_at hl 5 rfl) ?_
                                  refine lv_bipush (v := 24) hx hb d_md_fresh_134 (by decide) ?_
                                  refine lv_ishl hx hb d_md_fresh_136 ?_
                                  refine lv_iload hx hb d_md_fresh_137 (lv_at hl 6 rfl) ?_
                                  refine lv_bipush (v := 16) hx hb d_md_fresh_139 (by decide) ?_
                                  refine lv_ishl hx hb d_md_fresh_141 ?_
                                  refine lv_ior hx hb d_md_fresh_142 ?_
                                  refine lv_iload hx hb d_md_fresh_143 (lv_at hl 7 rfl) ?_
                                  refine lv_bipush (v := 8) hx hb d_md_fresh_145 (by decide) ?_
                                  refine lv_ishl hx hb d_md_fresh_147 ?_
                                  refine lv_ior hx hb d_md_fresh_148 ?_
                                  refine lv_iload hx hb d_md_fresh_149 (lv_at hl 8 rfl) ?_
                                  refine lv_ior hx hb d_md_fresh_151 ?_
                                  have hPc := hP.sub (ws' := [((ad 0), .inr (8, [.int md_thrownCode, .int p0, .int p1, .int p2, .int md_monomials_118, .ref (ad 1), .ref (ad 2), .int 0, .ref (ad 3), .ref (ad 4), .int 0, .int md_upTo, .ref (ad 5), .ref (ad 6), .ref (ad 7), .ref (ad 8), .int md_members, .int md_provedNow])), ((ad 1), .inl (cs 0, 126, .inl md_mono_119))]) [0, 1] rfl
                                  have hDc := hD.sub (ws' := [((ad 0), .inr (8, [.int md_thrownCode, .int p0, .int p1, .int p2, .int md_monomials_118, .ref (ad 1), .ref (ad 2), .int 0, .ref (ad 3), .ref (ad 4), .int 0, .int md_upTo, .ref (ad 5), .ref (ad 6), .ref (ad 7), .ref (ad 8), .int md_members, .int md_provedNow])), ((ad 1), .inl (cs 0, 126, .inl md_mono_119))]) [0, 1] (by decide) rfl
                                  have hFc := va_free (wc := [((ad 0), .inr (8, [.int md_thrownCode, .int p0, .int p1, .int p2, .int md_monomials_118, .ref (ad 1), .ref (ad 2), .int 0, .ref (ad 3), .ref (ad 4), .int 0, .int md_upTo, .ref (ad 5), .ref (ad 6), .ref (ad 7), .ref (ad 8), .int md_members, .int md_provedNow])), ((ad 1), .inl (cs 0, 126, .inl md_mono_119))]) hD hS hA [0, 1] rfl
                                  refine va_callv (va_runV (As := [.int ((((x5_8 <<< (24 &&& 31)) ||| (x6_27 <<< (16 &&& 31))) ||| (x7_87 <<< (8 &&& 31))) ||| x8_117)]) (rest := []) ⟨hx, hb, hml, hown, hts⟩ (c_md_put l dC dI cs ad  H.size md_thrownCode p0 p1 p2 md_monomials_118 0 0 md_upTo md_members md_provedNow md_mono_119 ((((x5_8 <<< (24 &&& 31)) ||| (x6_27 <<< (16 &&& 31))) ||| (x7_87 <<< (8 &&& 31))) ||| x8_117) _ hv) (cwV 1 hts (gd_V kw_606 kw_607 kw_18 kw_41 kw_608) rfl rfl rfl (by decide +kernel) ⟨Nat.le_of_ble_eq_true rfl, Nat.le_of_ble_eq_true rfl⟩) ⟨fun a U g mk q => by obtain ⟨q0, q1, qP, qK, qD⟩ := q; exact ⟨q0, q1, qP, qK.call, qD⟩, va_recv hK hPc (ci := 8) (q0 := 0) rfl rfl, fun U hU hW => ⟨rfl, by rw [hU], by rw [hU]; exact hPc, vwK.warm hW ⟨hK, hN⟩, hDc.weaken (fun _ _ _ _ => trivial)⟩⟩ rfl rfl hl.1 rfl (lv_room (Nat.le_of_ble_eq_true rfl)) d_md_fresh_152 ⟨Nat.zero_le _, Nat.zero_le _⟩) hS (fun q _ h => hFc q h) hFc (fun u t H1 locs1 ht hvm hw hB hz1 hk1 hS => ?_)
                                  obtain ⟨md_monomials_134, md_mono_135⟩ := u
                                  obtain ⟨hP1, hD1⟩ := hB
                                  rw [ht] at hP1
                                  obtain ⟨hP, hD⟩ := va_join (wr := [((ad 2), .inl (cs 0, 126, .inl md_degree)), ((ad 4), .inl (cs 0, 126, .inl md_hand))]) (w1 := [((ad 0), .inr (8, [.int md_thrownCode, .int p0, .int p1, .int p2, .int md_monomials_134, .ref (ad 1), .ref (ad 2), .int 0, .ref (ad 3), .ref (ad 4), .int 0, .int md_upTo, .ref (ad 5), .ref (ad 6), .ref (ad 7), .ref (ad 8), .int md_members, .int md_provedNow])), ((ad 1), .inl (cs 0, 126, .inl md_mono_135))]) hP hD [0, 1] [2, 3] rfl rfl (by decide) (by decide) hk1 hFc hP1 hD1
                                  generalize H1 = H at hP hS ⊢
                                  generalize locs1 = locs at hS ⊢
                                  have hP : va_P (dC, dI) vwCl [((ad 2), .inl (cs 0, 126, .inl md_degree)), ((ad 4), .inl (cs 0, 126, .inl md_hand)), ((ad 0), .inr (8, [.int md_thrownCode, .int p0, .int p1, .int p2, .int md_monomials_134, .ref (ad 1), .ref (ad 2), .int 0, .ref (ad 3), .ref (ad 4), .int 0, .int md_upTo, .ref (ad 5), .ref (ad 6), .ref (ad 7), .ref (ad 8), .int md_members, .int md_provedNow])), ((ad 1), .inl (cs 0, 126, .inl md_mono_135))] H := hP
                                  have hD : va_D A [((ad 2), .inl (cs 0, 126, .inl md_degree)), ((ad 4), .inl (cs 0, 126, .inl md_hand)), ((ad 0), .inr (8, [.int md_thrownCode, .int p0, .int p1, .int p2, .int md_monomials_134, .ref (ad 1), .ref (ad 2), .int 0, .ref (ad 3), .ref (ad 4), .int 0, .int md_upTo, .ref (ad 5), .ref (ad 6), .ref (ad 7), .ref (ad 8), .int md_members, .int md_provedNow])), ((ad 1), .inl (cs 0, 126, .inl md_mono_135))] := hD
                                  have hv := hw
                                  try dsimp only at hv
                                  obtain ⟨x8_136, ex8_136⟩ : ∃ y : Int32, y = x8_117 + 1 := ⟨_, rfl⟩
                                  have hv := hv x8_136 ex8_136
                                  refine lv_iinc (v := x8_136) (lv' := [(8, .int x8_136), (0, .ref (ad 0)), (1, .int p0), (2, .int p1), (3, .int p2), (4, .int r_7), (5, .int x5_8), (6, .int x6_27), (7, .int x7_87)]) hx hb d_md_fresh_155 hl (k := 8) rfl (by rw [ex8_136]; rfl) (by decide) rfl (fun ls hl => ?_)
                                  refine lv_goto (tgt := 96) hx hb d_md_fresh_158 (by decide) ?_
                                  exact ih96 x8_136 md_monomials_134 md_mono_135 (Nat.lt_of_lt_of_le hv.2 (Nat.le_of_lt_succ hlt96)) hv.1 _ _ _ (hP.sub [2, 3, 0, 1] rfl) (hD.sub [2, 3, 0, 1] (by decide) rfl) hS (lv_sub hl [1, 2, 3, 4, 5, 6, 7, 8, 0] rfl)
                        exact loop96 _ 0 md_monomials_88 md_mono_89 (Nat.lt_succ_self _) hi0 _ _ _ hP hD hS hl
                exact loop74 _ 0 md_monomials_28 md_mono_29 (Nat.lt_succ_self _) hi0 _ _ _ hP hD hS hl
        exact loop52 _ 0 md_monomials_9 md_mono_10 (Nat.lt_succ_self _) hi0 _ _ _ hP hD hS hl
  exact loop42 _ 0 0 md_mono (Nat.lt_succ_self _) hi0 _ _ _ hP hD hS hl
abbrev b_md_findSpace : ByteArray := prog_10_method_15_code
def y_md_findSpace : MethodName := ⟨"SpaceBasisModel", "findSpace", "(I)V"⟩
def w_md_findSpace : List Cond := Cond.code y_md_findSpace b_md_findSpace 5 none :: vwWS
theorem d_md_findSpace_0 : decode b_md_findSpace 0 = .ok (.iconst 0, 1) := by decide +kernel
theorem d_md_findSpace_1 : decode b_md_findSpace 1 = .ok (.istore_n 2, 1) := by decide +kernel
theorem d_md_findSpace_2 : decode b_md_findSpace 2 = .ok (.iload_n 2, 1) := by decide +kernel
theorem d_md_findSpace_3 : decode b_md_findSpace 3 = .ok (.bipush 126, 2) := by decide +kernel
theorem d_md_findSpace_5 : decode b_md_findSpace 5 = .ok (.if_icmp .ge 16, 3) := by decide +kernel
theorem d_md_findSpace_8 : decode b_md_findSpace 8 = .ok (.aload_n 0, 1) := by decide +kernel
theorem d_md_findSpace_9 : decode b_md_findSpace 9 = .ok (.getfield 48, 3) := by decide +kernel
theorem d_md_findSpace_12 : decode b_md_findSpace 12 = .ok (.iload_n 2, 1) := by decide +kernel
theorem d_md_findSpace_13 : decode b_md_findSpace 13 = .ok (.iconst 0, 1) := by decide +kernel
theorem d_md_findSpace_14 : decode b_md_findSpace 14 = .ok (.bastore, 1) := by decide +kernel
theorem d_md_findSpace_15 : decode b_md_findSpace 15 = .ok (.iinc 2 1, 3) := by decide +kernel
theorem d_md_findSpace_18 : decode b_md_findSpace 18 = .ok (.goto (-16), 3) := by decide +kernel
theorem d_md_findSpace_21 : decode b_md_findSpace 21 = .ok (.iconst 0, 1) := by decide +kernel
theorem d_md_findSpace_22 : decode b_md_findSpace 22 = .ok (.istore_n 2, 1) := by decide +kernel
theorem d_md_findSpace_23 : decode b_md_findSpace 23 = .ok (.iload_n 2, 1) := by decide +kernel
theorem d_md_findSpace_24 : decode b_md_findSpace 24 = .ok (.aload_n 0, 1) := by decide +kernel
theorem d_md_findSpace_25 : decode b_md_findSpace 25 = .ok (.getfield 32, 3) := by decide +kernel
theorem d_md_findSpace_28 : decode b_md_findSpace 28 = .ok (.if_icmp .ge 56, 3) := by decide +kernel
theorem d_md_findSpace_31 : decode b_md_findSpace 31 = .ok (.aload_n 0, 1) := by decide +kernel
theorem d_md_findSpace_32 : decode b_md_findSpace 32 = .ok (.iload_n 2, 1) := by decide +kernel
theorem d_md_findSpace_33 : decode b_md_findSpace 33 = .ok (.invokevirtual 103, 3) := by decide +kernel
theorem d_md_findSpace_36 : decode b_md_findSpace 36 = .ok (.iload_n 1, 1) := by decide +kernel
theorem d_md_findSpace_37 : decode b_md_findSpace 37 = .ok (.if_icmp .gt 41, 3) := by decide +kernel
theorem d_md_findSpace_40 : decode b_md_findSpace 40 = .ok (.iconst 0, 1) := by decide +kernel
theorem d_md_findSpace_41 : decode b_md_findSpace 41 = .ok (.istore_n 3, 1) := by decide +kernel
theorem d_md_findSpace_42 : decode b_md_findSpace 42 = .ok (.iload_n 3, 1) := by decide +kernel
theorem d_md_findSpace_43 : decode b_md_findSpace 43 = .ok (.aload_n 0, 1) := by decide +kernel
theorem d_md_findSpace_44 : decode b_md_findSpace 44 = .ok (.getfield 22, 3) := by decide +kernel
theorem d_md_findSpace_47 : decode b_md_findSpace 47 = .ok (.if_icmp .ge 26, 3) := by decide +kernel
theorem d_md_findSpace_50 : decode b_md_findSpace 50 = .ok (.aload_n 0, 1) := by decide +kernel
theorem d_md_findSpace_51 : decode b_md_findSpace 51 = .ok (.getfield 55, 3) := by decide +kernel
theorem d_md_findSpace_54 : decode b_md_findSpace 54 = .ok (.iload_n 3, 1) := by decide +kernel
theorem d_md_findSpace_55 : decode b_md_findSpace 55 = .ok (.aload_n 0, 1) := by decide +kernel
theorem d_md_findSpace_56 : decode b_md_findSpace 56 = .ok (.getfield 35, 3) := by decide +kernel
theorem d_md_findSpace_59 : decode b_md_findSpace 59 = .ok (.bipush 126, 2) := by decide +kernel
theorem d_md_findSpace_61 : decode b_md_findSpace 61 = .ok (.iload_n 2, 1) := by decide +kernel
theorem d_md_findSpace_62 : decode b_md_findSpace 62 = .ok (.imul, 1) := by decide +kernel
theorem d_md_findSpace_63 : decode b_md_findSpace 63 = .ok (.iload_n 3, 1) := by decide +kernel
theorem d_md_findSpace_64 : decode b_md_findSpace 64 = .ok (.iadd, 1) := by decide +kernel
theorem d_md_findSpace_65 : decode b_md_findSpace 65 = .ok (.iaload, 1) := by decide +kernel
theorem d_md_findSpace_66 : decode b_md_findSpace 66 = .ok (.iastore, 1) := by decide +kernel
theorem d_md_findSpace_67 : decode b_md_findSpace 67 = .ok (.iinc 3 1, 3) := by decide +kernel
theorem d_md_findSpace_70 : decode b_md_findSpace 70 = .ok (.goto (-28), 3) := by decide +kernel
theorem d_md_findSpace_73 : decode b_md_findSpace 73 = .ok (.aload_n 0, 1) := by decide +kernel
theorem d_md_findSpace_74 : decode b_md_findSpace 74 = .ok (.invokevirtual 106, 3) := by decide +kernel
theorem d_md_findSpace_77 : decode b_md_findSpace 77 = .ok (.pop, 1) := by decide +kernel
theorem d_md_findSpace_78 : decode b_md_findSpace 78 = .ok (.iinc 2 1, 3) := by decide +kernel
theorem d_md_findSpace_81 : decode b_md_findSpace 81 = .ok (.goto (-58), 3) := by decide +kernel
theorem d_md_findSpace_84 : decode b_md_findSpace 84 = .ok (.iconst 1, 1) := by decide +kernel
theorem d_md_findSpace_85 : decode b_md_findSpace 85 = .ok (.istore_n 2, 1) := by decide +kernel
theorem d_md_findSpace_86 : decode b_md_findSpace 86 = .ok (.iload_n 2, 1) := by decide +kernel
theorem d_md_findSpace_87 : decode b_md_findSpace 87 = .ok (.ifCond .eq 77, 3) := by decide +kernel
theorem d_md_findSpace_90 : decode b_md_findSpace 90 = .ok (.iconst 0, 1) := by decide +kernel
theorem d_md_findSpace_91 : decode b_md_findSpace 91 = .ok (.istore_n 2, 1) := by decide +kernel
theorem d_md_findSpace_92 : decode b_md_findSpace 92 = .ok (.iconst 0, 1) := by decide +kernel
theorem d_md_findSpace_93 : decode b_md_findSpace 93 = .ok (.istore_n 3, 1) := by decide +kernel
theorem d_md_findSpace_94 : decode b_md_findSpace 94 = .ok (.iload_n 3, 1) := by decide +kernel
theorem d_md_findSpace_95 : decode b_md_findSpace 95 = .ok (.aload_n 0, 1) := by decide +kernel
theorem d_md_findSpace_96 : decode b_md_findSpace 96 = .ok (.getfield 22, 3) := by decide +kernel
theorem d_md_findSpace_99 : decode b_md_findSpace 99 = .ok (.if_icmp .ge 62, 3) := by decide +kernel
theorem d_md_findSpace_102 : decode b_md_findSpace 102 = .ok (.iconst 0, 1) := by decide +kernel
theorem d_md_findSpace_103 : decode b_md_findSpace 103 = .ok (.istore 4, 2) := by decide +kernel
theorem d_md_findSpace_105 : decode b_md_findSpace 105 = .ok (.iload 4, 2) := by decide +kernel
theorem d_md_findSpace_107 : decode b_md_findSpace 107 = .ok (.aload_n 0, 1) := by decide +kernel
theorem d_md_findSpace_108 : decode b_md_findSpace 108 = .ok (.getfield 16, 3) := by decide +kernel
theorem d_md_findSpace_111 : decode b_md_findSpace 111 = .ok (.if_icmp .ge 44, 3) := by decide +kernel
theorem d_md_findSpace_114 : decode b_md_findSpace 114 = .ok (.aload_n 0, 1) := by decide +kernel
theorem d_md_findSpace_115 : decode b_md_findSpace 115 = .ok (.getfield 48, 3) := by decide +kernel
theorem d_md_findSpace_118 : decode b_md_findSpace 118 = .ok (.iload_n 3, 1) := by decide +kernel
theorem d_md_findSpace_119 : decode b_md_findSpace 119 = .ok (.baload, 1) := by decide +kernel
theorem d_md_findSpace_120 : decode b_md_findSpace 120 = .ok (.ifCond .eq 35, 3) := by decide +kernel
theorem d_md_findSpace_123 : decode b_md_findSpace 123 = .ok (.aload_n 0, 1) := by decide +kernel
theorem d_md_findSpace_124 : decode b_md_findSpace 124 = .ok (.getfield 29, 3) := by decide +kernel
theorem d_md_findSpace_127 : decode b_md_findSpace 127 = .ok (.iload_n 3, 1) := by decide +kernel
theorem d_md_findSpace_128 : decode b_md_findSpace 128 = .ok (.iaload, 1) := by decide +kernel
theorem d_md_findSpace_129 : decode b_md_findSpace 129 = .ok (.iload_n 1, 1) := by decide +kernel
theorem d_md_findSpace_130 : decode b_md_findSpace 130 = .ok (.if_icmp .ge 25, 3) := by decide +kernel
theorem d_md_findSpace_133 : decode b_md_findSpace 133 = .ok (.aload_n 0, 1) := by decide +kernel
theorem d_md_findSpace_134 : decode b_md_findSpace 134 = .ok (.iload_n 3, 1) := by decide +kernel
theorem d_md_findSpace_135 : decode b_md_findSpace 135 = .ok (.iload 4, 2) := by decide +kernel
theorem d_md_findSpace_137 : decode b_md_findSpace 137 = .ok (.invokevirtual 110, 3) := by decide +kernel
theorem d_md_findSpace_140 : decode b_md_findSpace 140 = .ok (.aload_n 0, 1) := by decide +kernel
theorem d_md_findSpace_141 : decode b_md_findSpace 141 = .ok (.invokevirtual 106, 3) := by decide +kernel
theorem d_md_findSpace_144 : decode b_md_findSpace 144 = .ok (.ifCond .eq 5, 3) := by decide +kernel
theorem d_md_findSpace_147 : decode b_md_findSpace 147 = .ok (.iconst 1, 1) := by decide +kernel
theorem d_md_findSpace_148 : decode b_md_findSpace 148 = .ok (.istore_n 2, 1) := by decide +kernel
theorem d_md_findSpace_149 : decode b_md_findSpace 149 = .ok (.iinc 4 1, 3) := by decide +kernel
theorem d_md_findSpace_152 : decode b_md_findSpace 152 = .ok (.goto (-47), 3) := by decide +kernel
theorem d_md_findSpace_155 : decode b_md_findSpace 155 = .ok (.iinc 3 1, 3) := by decide +kernel
theorem d_md_findSpace_158 : decode b_md_findSpace 158 = .ok (.goto (-64), 3) := by decide +kernel
theorem d_md_findSpace_161 : decode b_md_findSpace 161 = .ok (.goto (-75), 3) := by decide +kernel
theorem d_md_findSpace_164 : decode b_md_findSpace 164 = .ok (.iconst 0, 1) := by decide +kernel
theorem d_md_findSpace_165 : decode b_md_findSpace 165 = .ok (.istore_n 3, 1) := by decide +kernel
theorem d_md_findSpace_166 : decode b_md_findSpace 166 = .ok (.iload_n 3, 1) := by decide +kernel
theorem d_md_findSpace_167 : decode b_md_findSpace 167 = .ok (.aload_n 0, 1) := by decide +kernel
theorem d_md_findSpace_168 : decode b_md_findSpace 168 = .ok (.getfield 22, 3) := by decide +kernel
theorem d_md_findSpace_171 : decode b_md_findSpace 171 = .ok (.if_icmp .ge 23, 3) := by decide +kernel
theorem d_md_findSpace_174 : decode b_md_findSpace 174 = .ok (.aload_n 0, 1) := by decide +kernel
theorem d_md_findSpace_175 : decode b_md_findSpace 175 = .ok (.getfield 48, 3) := by decide +kernel
theorem d_md_findSpace_178 : decode b_md_findSpace 178 = .ok (.iload_n 3, 1) := by decide +kernel
theorem d_md_findSpace_179 : decode b_md_findSpace 179 = .ok (.baload, 1) := by decide +kernel
theorem d_md_findSpace_180 : decode b_md_findSpace 180 = .ok (.ifCond .eq 8, 3) := by decide +kernel
theorem d_md_findSpace_183 : decode b_md_findSpace 183 = .ok (.aload_n 0, 1) := by decide +kernel
theorem d_md_findSpace_184 : decode b_md_findSpace 184 = .ok (.iload_n 3, 1) := by decide +kernel
theorem d_md_findSpace_185 : decode b_md_findSpace 185 = .ok (.invokevirtual 114, 3) := by decide +kernel
theorem d_md_findSpace_188 : decode b_md_findSpace 188 = .ok (.iinc 3 1, 3) := by decide +kernel
theorem d_md_findSpace_191 : decode b_md_findSpace 191 = .ok (.goto (-25), 3) := by decide +kernel
theorem d_md_findSpace_194 : decode b_md_findSpace 194 = .ok (.return_, 1) := by decide +kernel
/-- SpaceBasisModel.findSpace(I)V -/
def vc_md_findSpace (md_thrownCode : Int32) (md_p : Int32) (md_n : Int32) (md_order : Int32) (md_monomials : Int32) (md_generators : Int32) (md_found : Int32) (md_upTo : Int32) (md_members : Int32) (md_provedNow : Int32) (md_mono : Nat → Int32) (md_degree : Nat → Int32) (md_generator : Nat → Int32) (md_has : Nat → Int32) (md_row : Nat → Int32) (md_work : Nat → Int32) (p0 : Int32) (Q : (Nat → Int32) → (Nat → Int32) → (Nat → Int32) → Prop) : Prop :=
  ∃ (I2_3 : Int32 → (Nat → Int32) → Prop) (mu2_4 : Int32 → (Nat → Int32) → Nat), I2_3 0 md_has ∧ ∀ (x2_1 : Int32) (md_has_2 : Nat → Int32), I2_3 x2_1 md_has_2 → ((((126 ≤ x2_1) → (∃ (I23_10 : Int32 → (Nat → Int32) → (Nat → Int32) → (Nat → Int32) → Prop) (mu23_11 : Int32 → (Nat → Int32) → (Nat → Int32) → (Nat → Int32) → Nat), I23_10 0 md_has_2 md_row md_work ∧ ∀ (x2_6 : Int32) (md_has_7 : Nat → Int32) (md_row_8 : Nat → Int32) (md_work_9 : Nat → Int32), I23_10 x2_6 md_has_7 md_row_8 md_work_9 → ((((md_generators ≤ x2_6) → (∃ (I86_17 : Int32 → (Nat → Int32) → (Nat → Int32) → (Nat → Int32) → Prop) (mu86_18 : Int32 → (Nat → Int32) → (Nat → Int32) → (Nat → Int32) → Nat), I86_17 1 md_has_7 md_row_8 md_work_9 ∧ ∀ (x2_13 : Int32) (md_has_14 : Nat → Int32) (md_row_15 : Nat → Int32) (md_work_16 : Nat → Int32), I86_17 x2_13 md_has_14 md_row_15 md_work_16 → ((((x2_13 = 0) → (∃ (I166_23 : Int32 → (Nat → Int32) → (Nat → Int32) → Prop) (mu166_24 : Int32 → (Nat → Int32) → (Nat → Int32) → Nat), I166_23 0 md_row_15 md_work_16 ∧ ∀ (x3_20 : Int32) (md_row_21 : Nat → Int32) (md_work_22 : Nat → Int32), I166_23 x3_20 md_row_21 md_work_22 → ((((md_monomials ≤ x3_20) → (Q md_has_14 md_row_21 md_work_22)) ∧ ((¬ (md_monomials ≤ x3_20)) → (vp_in x3_20 126 ∧ ((((md_has_14 x3_20.toNatClampNeg) = 0) → (∀ x3_28 : Int32, x3_28 = x3_20 + 1 → (I166_23 x3_28 md_row_21 md_work_22 ∧ mu166_24 x3_28 md_row_21 md_work_22 < mu166_24 x3_20 md_row_21 md_work_22))) ∧ ((¬ ((md_has_14 x3_20.toNatClampNeg) = 0)) → (vc_md_clean md_thrownCode md_p md_n md_order md_monomials md_generators md_found md_upTo md_members md_provedNow md_has_14 md_row_21 md_work_22 x3_20 (fun (md_row_29 : Nat → Int32) (md_work_30 : Nat → Int32) => ∀ x3_31 : Int32, x3_31 = x3_20 + 1 → (I166_23 x3_31 md_row_29 md_work_30 ∧ mu166_24 x3_31 md_row_29 md_work_30 < mu166_24 x3_20 md_row_21 md_work_22))))))))))) ∧ ((¬ (x2_13 = 0)) → (∃ (I94_37 : Int32 → Int32 → (Nat → Int32) → (Nat → Int32) → (Nat → Int32) → Prop) (mu94_38 : Int32 → Int32 → (Nat → Int32) → (Nat → Int32) → (Nat → Int32) → Nat), I94_37 0 0 md_has_14 md_row_15 md_work_16 ∧ ∀ (x2_32 : Int32) (x3_33 : Int32) (md_has_34 : Nat → Int32) (md_row_35 : Nat → Int32) (md_work_36 : Nat → Int32), I94_37 x2_32 x3_33 md_has_34 md_row_35 md_work_36 → ((((md_monomials ≤ x3_33) → ((I86_17 x2_32 md_has_34 md_row_35 md_work_36 ∧ mu86_18 x2_32 md_has_34 md_row_35 md_work_36 < mu86_18 x2_13 md_has_14 md_row_15 md_work_16))) ∧ ((¬ (md_monomials ≤ x3_33)) → (∃ (I105_45 : Int32 → Int32 → (Nat → Int32) → (Nat → Int32) → (Nat → Int32) → Prop) (mu105_46 : Int32 → Int32 → (Nat → Int32) → (Nat → Int32) → (Nat → Int32) → Nat), I105_45 x2_32 0 md_has_34 md_row_35 md_work_36 ∧ ∀ (x2_40 : Int32) (x4_41 : Int32) (md_has_42 : Nat → Int32) (md_row_43 : Nat → Int32) (md_work_44 : Nat → Int32), I105_45 x2_40 x4_41 md_has_42 md_row_43 md_work_44 → ((((md_n ≤ x4_41) → (∀ x3_48 : Int32, x3_48 = x3_33 + 1 → (I94_37 x2_40 x3_48 md_has_42 md_row_43 md_work_44 ∧ mu94_38 x2_40 x3_48 md_has_42 md_row_43 md_work_44 < mu94_38 x2_32 x3_33 md_has_34 md_row_35 md_work_36))) ∧ ((¬ (md_n ≤ x4_41)) → (vp_in x3_33 126 ∧ ((((md_has_42 x3_33.toNatClampNeg) = 0) → (∀ x3_51 : Int32, x3_51 = x3_33 + 1 → (I94_37 x2_40 x3_51 md_has_42 md_row_43 md_work_44 ∧ mu94_38 x2_40 x3_51 md_has_42 md_row_43 md_work_44 < mu94_38 x2_32 x3_33 md_has_34 md_row_35 md_work_36))) ∧ ((¬ ((md_has_42 x3_33.toNatClampNeg) = 0)) → (vp_in x3_33 126 ∧ (((p0 ≤ (md_degree x3_33.toNatClampNeg)) → (∀ x3_54 : Int32, x3_54 = x3_33 + 1 → (I94_37 x2_40 x3_54 md_has_42 md_row_43 md_work_44 ∧ mu94_38 x2_40 x3_54 md_has_42 md_row_43 md_work_44 < mu94_38 x2_32 x3_33 md_has_34 md_row_35 md_work_36))) ∧ ((¬ (p0 ≤ (md_degree x3_33.toNatClampNeg))) → (vc_md_multiplied md_thrownCode md_p md_n md_order md_monomials md_generators md_found md_upTo md_members md_provedNow md_mono md_row_43 md_work_44 x3_33 x4_41 (fun (md_work_55 : Nat → Int32) => vc_md_comes md_thrownCode md_p md_n md_order md_monomials md_generators md_found md_upTo md_members md_provedNow md_has_42 md_row_43 md_work_55 (fun (r_59 : Int32) (md_has_56 : Nat → Int32) (md_row_57 : Nat → Int32) (md_work_58 : Nat → Int32) => (((r_59 = 0) → (∀ x4_61 : Int32, x4_61 = x4_41 + 1 → (I105_45 x2_40 x4_61 md_has_56 md_row_57 md_work_58 ∧ mu105_46 x2_40 x4_61 md_has_56 md_row_57 md_work_58 < mu105_46 x2_40 x4_41 md_has_42 md_row_43 md_work_44))) ∧ ((¬ (r_59 = 0)) → (∀ x4_62 : Int32, x4_62 = x4_41 + 1 → (I105_45 1 x4_62 md_has_56 md_row_57 md_work_58 ∧ mu105_46 1 x4_62 md_has_56 md_row_57 md_work_58 < mu105_46 x2_40 x4_41 md_has_42 md_row_43 md_work_44)))))))))))))))))))))))))) ∧ ((¬ (md_generators ≤ x2_6)) → (vc_md_degreeOfGenerator md_thrownCode md_p md_n md_order md_monomials md_generators md_found md_upTo md_members md_provedNow md_degree md_generator x2_6 (fun (r_63 : Int32) => (((p0 < r_63) → (∀ x2_65 : Int32, x2_65 = x2_6 + 1 → (I23_10 x2_65 md_has_7 md_row_8 md_work_9 ∧ mu23_11 x2_65 md_has_7 md_row_8 md_work_9 < mu23_11 x2_6 md_has_7 md_row_8 md_work_9))) ∧ ((¬ (p0 < r_63)) → (∃ (I42_68 : Int32 → (Nat → Int32) → Prop) (mu42_69 : Int32 → (Nat → Int32) → Nat), I42_68 0 md_work_9 ∧ ∀ (x3_66 : Int32) (md_work_67 : Nat → Int32), I42_68 x3_66 md_work_67 → ((((md_monomials ≤ x3_66) → (vc_md_comes md_thrownCode md_p md_n md_order md_monomials md_generators md_found md_upTo md_members md_provedNow md_has_7 md_row_8 md_work_67 (fun (r_74 : Int32) (md_has_71 : Nat → Int32) (md_row_72 : Nat → Int32) (md_work_73 : Nat → Int32) => ∀ x2_75 : Int32, x2_75 = x2_6 + 1 → (I23_10 x2_75 md_has_71 md_row_72 md_work_73 ∧ mu23_11 x2_75 md_has_71 md_row_72 md_work_73 < mu23_11 x2_6 md_has_7 md_row_8 md_work_9)))) ∧ ((¬ (md_monomials ≤ x3_66)) → (vp_in ((126 * x2_6) + x3_66) 1008 ∧ vp_in x3_66 126 ∧ ∀ md_work_78 : Nat → Int32, md_work_78 = upd md_work_67 x3_66.toNatClampNeg (md_generator (((126 * x2_6) + x3_66)).toNatClampNeg) → ∀ x3_79 : Int32, x3_79 = x3_66 + 1 → (I42_68 x3_79 md_work_78 ∧ mu42_69 x3_79 md_work_78 < mu42_69 x3_66 md_work_67))))))))))))))) ∧ ((¬ (126 ≤ x2_1)) → (vp_in x2_1 126 ∧ ∀ md_has_81 : Nat → Int32, md_has_81 = upd md_has_2 x2_1.toNatClampNeg (vp_nar .boolean 0) → ∀ x2_82 : Int32, x2_82 = x2_1 + 1 → (I2_3 x2_82 md_has_81 ∧ mu2_4 x2_82 md_has_81 < mu2_4 x2_1 md_has_2)))))
abbrev at_md_findSpace (dC : Nat → ClassId) (dI : Nat → Nat → Nat) (cs : Nat → ClassId) (A : Nat → Prop) (ad : Nat → Nat) (md_thrownCode : Int32) (md_p : Int32) (md_n : Int32) (md_order : Int32) (md_monomials : Int32) (md_generators : Int32) (md_found : Int32) (md_upTo : Int32) (md_members : Int32) (md_provedNow : Int32) (md_mono : Nat → Int32) (md_degree : Nat → Int32) (md_generator : Nat → Int32) (u : (Nat → Int32) × (Nat → Int32) × (Nat → Int32)) (t : State) : Prop := match u with
  | (md_has, md_row, md_work) => va_P (dC, dI) vwCl [((ad 0), .inr (8, [.int md_thrownCode, .int md_p, .int md_n, .int md_order, .int md_monomials, .ref (ad 1), .ref (ad 2), .int md_generators, .ref (ad 3), .ref (ad 4), .int md_found, .int md_upTo, .ref (ad 5), .ref (ad 6), .ref (ad 7), .ref (ad 8), .int md_members, .int md_provedNow])), ((ad 1), .inl (cs 0, 126, .inl md_mono)), ((ad 2), .inl (cs 0, 126, .inl md_degree)), ((ad 3), .inl (cs 0, 1008, .inl md_generator)), ((ad 5), .inl (cs 2, 126, .inl md_has)), ((ad 6), .inl (cs 0, 15876, .inl md_row)), ((ad 7), .inl (cs 0, 126, .inl md_work))] t.heap ∧ va_D A [((ad 0), .inr (8, [.int md_thrownCode, .int md_p, .int md_n, .int md_order, .int md_monomials, .ref (ad 1), .ref (ad 2), .int md_generators, .ref (ad 3), .ref (ad 4), .int md_found, .int md_upTo, .ref (ad 5), .ref (ad 6), .ref (ad 7), .ref (ad 8), .int md_members, .int md_provedNow])), ((ad 1), .inl (cs 0, 126, .inl md_mono)), ((ad 2), .inl (cs 0, 126, .inl md_degree)), ((ad 3), .inl (cs 0, 1008, .inl md_generator)), ((ad 5), .inl (cs 2, 126, .inl md_has)), ((ad 6), .inl (cs 0, 15876, .inl md_row)), ((ad 7), .inl (cs 0, 126, .inl md_work))]
set_option maxHeartbeats 4000000 in
set_option maxRecDepth 100000 in
theorem c_md_findSpace (l : Launch) (dC : Nat → ClassId) (dI : Nat → Nat → Nat) (cs : Nat → ClassId) (ad : Nat → Nat)  (sz : Nat) (md_thrownCode : Int32) (md_p : Int32) (md_n : Int32) (md_order : Int32) (md_monomials : Int32) (md_generators : Int32) (md_found : Int32) (md_upTo : Int32) (md_members : Int32) (md_provedNow : Int32) (md_mono : Nat → Int32) (md_degree : Nat → Int32) (md_generator : Nat → Int32) (md_has : Nat → Int32) (md_row : Nat → Int32) (md_work : Nat → Int32) (p0 : Int32) (Q : (Nat → Int32) → (Nat → Int32) → (Nat → Int32) → Prop) (hv : vc_md_findSpace md_thrownCode md_p md_n md_order md_monomials md_generators md_found md_upTo md_members md_provedNow md_mono md_degree md_generator md_has md_row md_work p0 Q) : Met l y_md_findSpace w_md_findSpace ({ frames := 3, cells := 0, slots := 0, locals := 70 }) (va_Pc [.ref (ad 0), .int p0] (fun U => U.heap.size = sz ∧ va_P (dC, dI) vwCl [((ad 0), .inr (8, [.int md_thrownCode, .int md_p, .int md_n, .int md_order, .int md_monomials, .ref (ad 1), .ref (ad 2), .int md_generators, .ref (ad 3), .ref (ad 4), .int md_found, .int md_upTo, .ref (ad 5), .ref (ad 6), .ref (ad 7), .ref (ad 8), .int md_members, .int md_provedNow])), ((ad 1), .inl (cs 0, 126, .inl md_mono)), ((ad 2), .inl (cs 0, 126, .inl md_degree)), ((ad 3), .inl (cs 0, 1008, .inl md_generator)), ((ad 5), .inl (cs 2, 126, .inl md_has)), ((ad 6), .inl (cs 0, 15876, .inl md_row)), ((ad 7), .inl (cs 0, 126, .inl md_work))] U.heap ∧ vwK dC dI cs U ∧ va_D (fun _ => True) [((ad 0), .inr (8, [.int md_thrownCode, .int md_p, .int md_n, .int md_order, .int md_monomials, .ref (ad 1), .ref (ad 2), .int md_generators, .ref (ad 3), .ref (ad 4), .int md_found, .int md_upTo, .ref (ad 5), .ref (ad 6), .ref (ad 7), .ref (ad 8), .int md_members, .int md_provedNow])), ((ad 1), .inl (cs 0, 126, .inl md_mono)), ((ad 2), .inl (cs 0, 126, .inl md_degree)), ((ad 3), .inl (cs 0, 1008, .inl md_generator)), ((ad 5), .inl (cs 2, 126, .inl md_has)), ((ad 6), .inl (cs 0, 15876, .inl md_row)), ((ad 7), .inl (cs 0, 126, .inl md_work))])) (va_Qv (fun (u : (Nat → Int32) × (Nat → Int32) × (Nat → Int32)) => Q u.1 u.2.1 u.2.2) (at_md_findSpace dC dI cs (va_A [((ad 0), .inr (8, [.int md_thrownCode, .int md_p, .int md_n, .int md_order, .int md_monomials, .ref (ad 1), .ref (ad 2), .int md_generators, .ref (ad 3), .ref (ad 4), .int md_found, .int md_upTo, .ref (ad 5), .ref (ad 6), .ref (ad 7), .ref (ad 8), .int md_members, .int md_provedNow])), ((ad 1), .inl (cs 0, 126, .inl md_mono)), ((ad 2), .inl (cs 0, 126, .inl md_degree)), ((ad 3), .inl (cs 0, 1008, .inl md_generator)), ((ad 5), .inl (cs 2, 126, .inl md_has)), ((ad 6), .inl (cs 0, 15876, .inl md_row)), ((ad 7), .inl (cs 0, 126, .inl md_work))] sz) ad md_thrownCode md_p md_n md_order md_monomials md_generators md_found md_upTo md_members md_provedNow md_mono md_degree md_generator) (va_A [((ad 0), .inr (8, [.int md_thrownCode, .int md_p, .int md_n, .int md_order, .int md_monomials, .ref (ad 1), .ref (ad 2), .int md_generators, .ref (ad 3), .ref (ad 4), .int md_found, .int md_upTo, .ref (ad 5), .ref (ad 6), .ref (ad 7), .ref (ad 8), .int md_members, .int md_provedNow])), ((ad 1), .inl (cs 0, 126, .inl md_mono)), ((ad 2), .inl (cs 0, 126, .inl md_degree)), ((ad 3), .inl (cs 0, 1008, .inl md_generator)), ((ad 5), .inl (cs 2, 126, .inl md_has)), ((ad 6), .inl (cs 0, 15876, .inl md_row)), ((ad 7), .inl (cs 0, 126, .inl md_work))] sz)) 0 0 (va_A [((ad 0), .inr (8, [.int md_thrownCode, .int md_p, .int md_n, .int md_order, .int md_monomials, .ref (ad 1), .ref (ad 2), .int md_generators, .ref (ad 3), .ref (ad 4), .int md_found, .int md_upTo, .ref (ad 5), .ref (ad 6), .ref (ad 7), .ref (ad 8), .int md_members, .int md_provedNow])), ((ad 1), .inl (cs 0, 126, .inl md_mono)), ((ad 2), .inl (cs 0, 126, .inl md_degree)), ((ad 3), .inl (cs 0, 1008, .inl md_generator)), ((ad 5), .inl (cs 2, 126, .inl md_has)), ((ad 6), .inl (cs 0, 15876, .inl md_row)), ((ad 7), .inl (cs 0, 126, .inl md_work))] sz) := by
  unfold vc_md_findSpace at hv
  refine Met.ofW (cc := b_md_findSpace) (maxL := 5) (ret := none) (by decide) rfl ?_
  intro p e s m args below meth c s₁ B hml hpc
  obtain ⟨rfl, hsz, hP, ⟨hK, hN⟩, hD0⟩ := hpc
  have hx := B.exec
  have hb := B.bytes
  have hr := B.returns
  have hts : ∀ w ∈ vwWS, w.before _ s = true := fun w h => atoms_spec (ws := w_md_findSpace) B.pre w (List.mem_cons_of_mem _ h)
  have hown : s.vm.findClass "SpaceBasisModel" = some m.cls := findClass_of_methodNamed B.named
  have hlocks := B.notSynchronized
  subst hsz
  have hD := hD0.self (sz := s.heap.size)
  generalize hAe : va_A [((ad 0), .inr (8, [.int md_thrownCode, .int md_p, .int md_n, .int md_order, .int md_monomials, .ref (ad 1), .ref (ad 2), .int md_generators, .ref (ad 3), .ref (ad 4), .int md_found, .int md_upTo, .ref (ad 5), .ref (ad 6), .ref (ad 7), .ref (ad 8), .int md_members, .int md_provedNow])), ((ad 1), .inl (cs 0, 126, .inl md_mono)), ((ad 2), .inl (cs 0, 126, .inl md_degree)), ((ad 3), .inl (cs 0, 1008, .inl md_generator)), ((ad 5), .inl (cs 2, 126, .inl md_has)), ((ad 6), .inl (cs 0, 15876, .inl md_row)), ((ad 7), .inl (cs 0, 126, .inl md_work))] s.heap.size = A at hD ⊢
  have hA : ∀ q : Nat, s.heap.size ≤ q → A q := fun q h => by rw [← hAe]; exact Or.inr h
  have hS : va_S A s.heap s.heap [] := va_S.rf
  have hl := lv_entry ([.ref (ad 0), .int p0]) (n := 5) (Nat.le_of_ble_eq_true rfl)
  rw [lg_entry_eq]
  generalize (lg_sl ([.ref (ad 0), .int p0]) ++ List.replicate (5 - (lg_sl ([.ref (ad 0), .int p0])).length) Slot.unset).toArray = ls at hl ⊢
  have hl : lv_has ls 5 [(0, .ref (ad 0)), (1, .int p0)] := hl
  refine lv_iconst (v := 0) hx hb d_md_findSpace_0 (by decide) ?_
  refine lv_istore_n (lv' := [(2, .int 0), (0, .ref (ad 0)), (1, .int p0)]) hx hb d_md_findSpace_1 rfl hl (by decide) rfl (fun ls hl => ?_)
  obtain ⟨I2_3, mu2_4, hi0, hv⟩ := hv
  have hP := hP.sub (ws' := [((ad 0), .inr (8, [.int md_thrownCode, .int md_p, .int md_n, .int md_order, .int md_monomials, .ref (ad 1), .ref (ad 2), .int md_generators, .ref (ad 3), .ref (ad 4), .int md_found, .int md_upTo, .ref (ad 5), .ref (ad 6), .ref (ad 7), .ref (ad 8), .int md_members, .int md_provedNow])), ((ad 1), .inl (cs 0, 126, .inl md_mono)), ((ad 2), .inl (cs 0, 126, .inl md_degree)), ((ad 3), .inl (cs 0, 1008, .inl md_generator)), ((ad 5), .inl (cs 2, 126, .inl md_has)), ((ad 6), .inl (cs 0, 15876, .inl md_row)), ((ad 7), .inl (cs 0, 126, .inl md_work))]) [0, 1, 2, 3, 4, 5, 6] rfl
  have hD := hD.sub (ws' := [((ad 0), .inr (8, [.int md_thrownCode, .int md_p, .int md_n, .int md_order, .int md_monomials, .ref (ad 1), .ref (ad 2), .int md_generators, .ref (ad 3), .ref (ad 4), .int md_found, .int md_upTo, .ref (ad 5), .ref (ad 6), .ref (ad 7), .ref (ad 8), .int md_members, .int md_provedNow])), ((ad 1), .inl (cs 0, 126, .inl md_mono)), ((ad 2), .inl (cs 0, 126, .inl md_degree)), ((ad 3), .inl (cs 0, 1008, .inl md_generator)), ((ad 5), .inl (cs 2, 126, .inl md_has)), ((ad 6), .inl (cs 0, 15876, .inl md_row)), ((ad 7), .inl (cs 0, 126, .inl md_work))]) [0, 1, 2, 3, 4, 5, 6] (by decide) rfl
  have hl := lv_sub (l' := [(0, .ref (ad 0)), (1, .int p0), (2, .int 0)]) hl [1, 2, 0] rfl
  have loop2 : ∀ (nn : Nat) (x2_1 : Int32) (md_has_2 : Nat → Int32), mu2_4 x2_1 md_has_2 < nn → I2_3 x2_1 md_has_2 → ∀ (H : Heap) (locs : List Loc) (ls : Array Slot), va_P (dC, dI) vwCl [((ad 0), .inr (8, [.int md_thrownCode, .int md_p, .int md_n, .int md_order, .int md_monomials, .ref (ad 1), .ref (ad 2), .int md_generators, .ref (ad 3), .ref (ad 4), .int md_found, .int md_upTo, .ref (ad 5), .ref (ad 6), .ref (ad 7), .ref (ad 8), .int md_members, .int md_provedNow])), ((ad 1), .inl (cs 0, 126, .inl md_mono)), ((ad 2), .inl (cs 0, 126, .inl md_degree)), ((ad 3), .inl (cs 0, 1008, .inl md_generator)), ((ad 5), .inl (cs 2, 126, .inl md_has_2)), ((ad 6), .inl (cs 0, 15876, .inl md_row)), ((ad 7), .inl (cs 0, 126, .inl md_work))] H → va_D A [((ad 0), .inr (8, [.int md_thrownCode, .int md_p, .int md_n, .int md_order, .int md_monomials, .ref (ad 1), .ref (ad 2), .int md_generators, .ref (ad 3), .ref (ad 4), .int md_found, .int md_upTo, .ref (ad 5), .ref (ad 6), .ref (ad 7), .ref (ad 8), .int md_members, .int md_provedNow])), ((ad 1), .inl (cs 0, 126, .inl md_mono)), ((ad 2), .inl (cs 0, 126, .inl md_degree)), ((ad 3), .inl (cs 0, 1008, .inl md_generator)), ((ad 5), .inl (cs 2, 126, .inl md_has_2)), ((ad 6), .inl (cs 0, 15876, .inl md_row)), ((ad 7), .inl (cs 0, 126, .inl md_work))] → va_S A s.heap H locs → lv_has ls 5 [(0, .ref (ad 0)), (1, .int p0), (2, .int x2_1)] → W p l e (headSpec w_md_findSpace { frames := 3, cells := 0, slots := 0, locals := 70 }).room s m ([.ref (ad 0), .int p0] : List Value).toArray below meth c H locs 0 0 (MQ below (va_Qv (fun (u : (Nat → Int32) × (Nat → Int32) × (Nat → Int32)) => Q u.1 u.2.1 u.2.2) (at_md_findSpace dC dI cs A ad md_thrownCode md_p md_n md_order md_monomials md_generators md_found md_upTo md_members md_provedNow md_mono md_degree md_generator) A) ([.ref (ad 0), .int p0] : List Value).toArray s 0 0 A) (F0 m 2 ls []) := by
    intro nn
    induction nn with
    | zero => intro x2_1 md_has_2 hlt; exact absurd hlt (Nat.not_lt_zero _)
    | succ nn ih2 =>
      intro x2_1 md_has_2 hlt2 hI H locs ls hP hD hS hl
      have hv := hv x2_1 md_has_2 hI
      refine lv_iload_n hx hb d_md_findSpace_2 rfl (lv_at hl 2 rfl) ?_
      refine lv_bipush (v := 126) hx hb d_md_findSpace_3 (by decide) ?_
      refine lv_icmp_ge (tgt := 21) hx hb d_md_findSpace_5 (by decide) (fun c_5 => ?_) (fun c_5 => ?_)
      · have hv := hv.1 c_5
        refine lv_iconst (v := 0) hx hb d_md_findSpace_21 (by decide) ?_
        refine lv_istore_n (lv' := [(2, .int 0), (0, .ref (ad 0)), (1, .int p0)]) hx hb d_md_findSpace_22 rfl hl (by decide) rfl (fun ls hl => ?_)
        obtain ⟨I23_10, mu23_11, hi0, hv⟩ := hv
        have hP := hP.sub (ws' := [((ad 0), .inr (8, [.int md_thrownCode, .int md_p, .int md_n, .int md_order, .int md_monomials, .ref (ad 1), .ref (ad 2), .int md_generators, .ref (ad 3), .ref (ad 4), .int md_found, .int md_upTo, .ref (ad 5), .ref (ad 6), .ref (ad 7), .ref (ad 8), .int md_members, .int md_provedNow])), ((ad 1), .inl (cs 0, 126, .inl md_mono)), ((ad 2), .inl (cs 0, 126, .inl md_degree)), ((ad 3), .inl (cs 0, 1008, .inl md_generator)), ((ad 5), .inl (cs 2, 126, .inl md_has_2)), ((ad 6), .inl (cs 0, 15876, .inl md_row)), ((ad 7), .inl (cs 0, 126, .inl md_work))]) [0, 1, 2, 3, 4, 5, 6] rfl
        have hD := hD.sub (ws' := [((ad 0), .inr (8, [.int md_thrownCode, .int md_p, .int md_n, .int md_order, .int md_monomials, .ref (ad 1), .ref (ad 2), .int md_generators, .ref (ad 3), .ref (ad 4), .int md_found, .int md_upTo, .ref (ad 5), .ref (ad 6), .ref (ad 7), .ref (ad 8), .int md_members, .int md_provedNow])), ((ad 1), .inl (cs 0, 126, .inl md_mono)), ((ad 2), .inl (cs 0, 126, .inl md_degree)), ((ad 3), .inl (cs 0, 1008, .inl md_generator)), ((ad 5), .inl (cs 2, 126, .inl md_has_2)), ((ad 6), .inl (cs 0, 15876, .inl md_row)), ((ad 7), .inl (cs 0, 126, .inl md_work))]) [0, 1, 2, 3, 4, 5, 6] (by decide) rfl
        have hl := lv_sub (l' := [(0, .ref (ad 0)), (1, .int p0), (2, .int 0)]) hl [1, 2, 0] rfl
        have loop23 : ∀ (nn : Nat) (x2_6 : Int32) (md_has_7 : Nat → Int32) (md_row_8 : Nat → Int32) (md_work_9 : Nat → Int32), mu23_11 x2_6 md_has_7 md_row_8 md_work_9 < nn → I23_10 x2_6 md_has_7 md_row_8 md_work_9 → ∀ (H : Heap) (locs : List Loc) (ls : Array Slot), va_P (dC, dI) vwCl [((ad 0), .inr (8, [.int md_thrownCode, .int md_p, .int md_n, .int md_order, .int md_monomials, .ref (ad 1), .ref (ad 2), .int md_generators, .ref (ad 3), .ref (ad 4), .int md_found, .int md_upTo, .ref (ad 5), .ref (ad 6), .ref (ad 7), .ref (ad 8), .int md_members, .int md_provedNow])), ((ad 1), .inl (cs 0, 126, .inl md_mono)), ((ad 2), .inl (cs 0, 126, .inl md_degree)), ((ad 3), .inl (cs 0, 1008, .inl md_generator)), ((ad 5), .inl (cs 2, 126, .inl md_has_7)), ((ad 6), .inl (cs 0, 15876, .inl md_row_8)), ((ad 7), .inl (cs 0, 126, .inl md_work_9))] H → va_D A [((ad 0), .inr (8, [.int md_thrownCode, .int md_p, .int md_n, .int md_order, .int md_monomials, .ref (ad 1), .ref (ad 2), .int md_generators, .ref (ad 3), .ref (ad 4), .int md_found, .int md_upTo, .ref (ad 5), .ref (ad 6), .ref (ad 7), .ref (ad 8), .int md_members, .int md_provedNow])), ((ad 1), .inl (cs 0, 126, .inl md_mono)), ((ad 2), .inl (cs 0, 126, .inl md_degree)), ((ad 3), .inl (cs 0, 1008, .inl md_generator)), ((ad 5), .inl (cs 2, 126, .inl md_has_7)), ((ad 6), .inl (cs 0, 15876, .inl md_row_8)), ((ad 7), .inl (cs 0, 126, .inl md_work_9))] → va_S A s.heap H locs → lv_has ls 5 [(0, .ref (ad 0)), (1, .int p0), (2, .int x2_6)] → W p l e (headSpec w_md_findSpace { frames := 3, cells := 0, slots := 0, locals := 70 }).room s m ([.ref (ad 0), .int p0] : List Value).toArray below meth c H locs 0 0 (MQ below (va_Qv (fun (u : (Nat → Int32) × (Nat → Int32) × (Nat → Int32)) => Q u.1 u.2.1 u.2.2) (at_md_findSpace dC dI cs A ad md_thrownCode md_p md_n md_order md_monomials md_generators md_found md_upTo md_members md_provedNow md_mono md_degree md_generator) A) ([.ref (ad 0), .int p0] : List Value).toArray s 0 0 A) (F0 m 23 ls []) := by
          intro nn
          induction nn with
          | zero => intro x2_6 md_has_7 md_row_8 md_work_9 hlt; exact absurd hlt (Nat.not_lt_zero _)
          | succ nn ih23 =>
            intro x2_6 md_has_7 md_row_8 md_work_9 hlt23 hI H locs ls hP hD hS hl
            have hv := hv x2_6 md_has_7 md_row_8 md_work_9 hI
            refine lv_iload_n hx hb d_md_findSpace_23 rfl (lv_at hl 2 rfl) ?_
            refine lv_aload_n hx hb d_md_findSpace_24 rfl (lv_at hl 0 rfl) ?_
            refine va_get (D := (dC, dI)) (ci := 8) (v := .int md_generators) (C := R_md) (T := F_md) (N := 18) hx hb hts in_md hown hK hP 0 rfl rfl 7 (by decide) (hts _ kw_625) (fun _ h9 => h9) rfl d_md_findSpace_25 ?_
            refine lv_icmp_ge (tgt := 84) hx hb d_md_findSpace_28 (by decide) (fun c_12 => ?_) (fun c_12 => ?_)
            · have hv := hv.1 c_12
              refine lv_iconst (v := 1) hx hb d_md_findSpace_84 (by decide) ?_
              refine lv_istore_n (lv' := [(2, .int 1), (0, .ref (ad 0)), (1, .int p0)]) hx hb d_md_findSpace_85 rfl hl (by decide) rfl (fun ls hl => ?_)
              obtain ⟨I86_17, mu86_18, hi0, hv⟩ := hv
              have hP := hP.sub (ws' := [((ad 0), .inr (8, [.int md_thrownCode, .int md_p, .int md_n, .int md_order, .int md_monomials, .ref (ad 1), .ref (ad 2), .int md_generators, .ref (ad 3), .ref (ad 4), .int md_found, .int md_upTo, .ref (ad 5), .ref (ad 6), .ref (ad 7), .ref (ad 8), .int md_members, .int md_provedNow])), ((ad 1), .inl (cs 0, 126, .inl md_mono)), ((ad 2), .inl (cs 0, 126, .inl md_degree)), ((ad 3), .inl (cs 0, 1008, .inl md_generator)), ((ad 5), .inl (cs 2, 126, .inl md_has_7)), ((ad 6), .inl (cs 0, 15876, .inl md_row_8)), ((ad 7), .inl (cs 0, 126, .inl md_work_9))]) [0, 1, 2, 3, 4, 5, 6] rfl
              have hD := hD.sub (ws' := [((ad 0), .inr (8, [.int md_thrownCode, .int md_p, .int md_n, .int md_order, .int md_monomials, .ref (ad 1), .ref (ad 2), .int md_generators, .ref (ad 3), .ref (ad 4), .int md_found, .int md_upTo, .ref (ad 5), .ref (ad 6), .ref (ad 7), .ref (ad 8), .int md_members, .int md_provedNow])), ((ad 1), .inl (cs 0, 126, .inl md_mono)), ((ad 2), .inl (cs 0, 126, .inl md_degree)), ((ad 3), .inl (cs 0, 1008, .inl md_generator)), ((ad 5), .inl (cs 2, 126, .inl md_has_7)), ((ad 6), .inl (cs 0, 15876, .inl md_row_8)), ((ad 7), .inl (cs 0, 126, .inl md_work_9))]) [0, 1, 2, 3, 4, 5, 6] (by decide) rfl
              have hl := lv_sub (l' := [(0, .ref (ad 0)), (1, .int p0), (2, .int 1)]) hl [1, 2, 0] rfl
              have loop86 : ∀ (nn : Nat) (x2_13 : Int32) (md_has_14 : Nat → Int32) (md_row_15 : Nat → Int32) (md_work_16 : Nat → Int32), mu86_18 x2_13 md_has_14 md_row_15 md_work_16 < nn → I86_17 x2_13 md_has_14 md_row_15 md_work_16 → ∀ (H : Heap) (locs : List Loc) (ls : Array Slot), va_P (dC, dI) vwCl [((ad 0), .inr (8, [.int md_thrownCode, .int md_p, .int md_n, .int md_order, .int md_monomials, .ref (ad 1), .ref (ad 2), .int md_generators, .ref (ad 3), .ref (ad 4), .int md_found, .int md_upTo, .ref (ad 5), .ref (ad 6), .ref (ad 7), .ref (ad 8), .int md_members, .int md_provedNow])), ((ad 1), .inl (cs 0, 126, .inl md_mono)), ((ad 2), .inl (cs 0, 126, .inl md_degree)), ((ad 3), .inl (cs 0, 1008, .inl md_generator)), ((ad 5), .inl (cs 2, 126, .inl md_has_14)), ((ad 6), .inl (cs 0, 15876, .inl md_row_15)), ((ad 7), .inl (cs 0, 126, .inl md_work_16))] H → va_D A [((ad 0), .inr (8, [.int md_thrownCode, .int md_p, .int md_n, .int md_order, .int md_monomials, .ref (ad 1), .ref (ad 2), .int md_generators, .ref (ad 3), .ref (ad 4), .int md_found, .int md_upTo, .ref (ad 5), .ref (ad 6), .ref (ad 7), .ref (ad 8), .int md_members, .int md_provedNow])), ((ad 1), .inl (cs 0, 126, .inl md_mono)), ((ad 2), .inl (cs 0, 126, .inl md_degree)), ((ad 3), .inl (cs 0, 1008, .inl md_generator)), ((ad 5), .inl (cs 2, 126, .inl md_has_14)), ((ad 6), .inl (cs 0, 15876, .inl md_row_15)), ((ad 7), .inl (cs 0, 126, .inl md_work_16))] → va_S A s.heap H locs → lv_has ls 5 [(0, .ref (ad 0)), (1, .int p0), (2, .int x2_13)] → W p l e (headSpec w_md_findSpace { frames := 3, cells := 0, slots := 0, locals := 70 }).room s m ([.ref (ad 0), .int p0] : List Value).toArray below meth c H locs 0 0 (MQ below (va_Qv (fun (u : (Nat → Int32) × (Nat → Int32) × (Nat → Int32)) => Q u.1 u.2.1 u.2.2) (at_md_findSpace dC dI cs A ad md_thrownCode md_p md_n md_order md_monomials md_generators md_found md_upTo md_members md_provedNow md_mono md_degree md_generator) A) ([.ref (ad 0), .int p0] : List Value).toArray s 0 0 A) (F0 m 86 ls []) := by
                intro nn
                induction nn with
                | zero => intro x2_13 md_has_14 md_row_15 md_work_16 hlt; exact absurd hlt (Nat.not_lt_zero _)
                | succ nn ih86 =>
                  intro x2_13 md_has_14 md_row_15 md_work_16 hlt86 hI H locs ls hP hD hS hl
                  have hv := hv x2_13 md_has_14 md_row_15 md_work_16 hI
                  refine lv_iload_n hx hb d_md_findSpace_86 rfl (lv_at hl 2 rfl) ?_
                  refine lv_if_eq (tgt := 164) hx hb d_md_findSpace_87 (by decide) (fun c_19 => ?_) (fun c_19 => ?_)
                  · have hv := hv.1 c_19
                    refine lv_iconst (v := 0) hx hb d_md_findSpace_164 (by decide) ?_
                    refine lv_istore_n (lv' := [(3, .int 0), (0, .ref (ad 0)), (1, .int p0), (2, .int x2_13)]) hx hb d_md_findSpace_165 rfl hl (by decide) rfl (fun ls hl => ?_)
                    obtain ⟨I166_23, mu166_24, hi0, hv⟩ := hv
                    have hP := hP.sub (ws' := [((ad 0), .inr (8, [.int md_thrownCode, .int md_p, .int md_n, .int md_order, .int md_monomials, .ref (ad 1), .ref (ad 2), .int md_generators, .ref (ad 3), .ref (ad 4), .int md_found, .int md_upTo, .ref (ad 5), .ref (ad 6), .ref (ad 7), .ref (ad 8), .int md_members, .int md_provedNow])), ((ad 1), .inl (cs 0, 126, .inl md_mono)), ((ad 2), .inl (cs 0, 126, .inl md_degree)), ((ad 3), .inl (cs 0, 1008, .inl md_generator)), ((ad 5), .inl (cs 2, 126, .inl md_has_14)), ((ad 6), .inl (cs 0, 15876, .inl md_row_15)), ((ad 7), .inl (cs 0, 126, .inl md_work_16))]) [0, 1, 2, 3, 4, 5, 6] rfl
                    have hD := hD.sub (ws' := [((ad 0), .inr (8, [.int md_thrownCode, .int md_p, .int md_n, .int md_order, .int md_monomials, .ref (ad 1), .ref (ad 2), .int md_generators, .ref (ad 3), .ref (ad 4), .int md_found, .int md_upTo, .ref (ad 5), .ref (ad 6), .ref (ad 7), .ref (ad 8), .int md_members, .int md_provedNow])), ((ad 1), .inl (cs 0, 126, .inl md_mono)), ((ad 2), .inl (cs 0, 126, .inl md_degree)), ((ad 3), .inl (cs 0, 1008, .inl md_generator)), ((ad 5), .inl (cs 2, 126, .inl md_has_14)), ((ad 6), .inl (cs 0, 15876, .inl md_row_15)), ((ad 7), .inl (cs 0, 126, .inl md_work_16))]) [0, 1, 2, 3, 4, 5, 6] (by decide) rfl
                    have hl := lv_sub (l' := [(0, .ref (ad 0)), (1, .int p0), (2, .int x2_13), (3, .int 0)]) hl [1, 2, 3, 0] rfl
                    have loop166 : ∀ (nn : Nat) (x3_20 : Int32) (md_row_21 : Nat → Int32) (md_work_22 : Nat → Int32), mu166_24 x3_20 md_row_21 md_work_22 < nn → I166_23 x3_20 md_row_21 md_work_22 → ∀ (H : Heap) (locs : List Loc) (ls : Array Slot), va_P (dC, dI) vwCl [((ad 0), .inr (8, [.int md_thrownCode, .int md_p, .int md_n, .int md_order, .int md_monomials, .ref (ad 1), .ref (ad 2), .int md_generators, .ref (ad 3), .ref (ad 4), .int md_found, .int md_upTo, .ref (ad 5), .ref (ad 6), .ref (ad 7), .ref (ad 8), .int md_members, .int md_provedNow])), ((ad 1), .inl (cs 0, 126, .inl md_mono)), ((ad 2), .inl (cs 0, 126, .inl md_degree)), ((ad 3), .inl (cs 0, 1008, .inl md_generator)), ((ad 5), .inl (cs 2, 126, .inl md_has_14)), ((ad 6), .inl (cs 0, 15876, .inl md_row_21)), ((ad 7), .inl (cs 0, 126, .inl md_work_22))] H → va_D A [((ad 0), .inr (8, [.int md_thrownCode, .int md_p, .int md_n, .int md_order, .int md_monomials, .ref (ad 1), .ref (ad 2), .int md_generators, .ref (ad 3), .ref (ad 4), .int md_found, .int md_upTo, .ref (ad 5), .ref (ad 6), .ref (ad 7), .ref (ad 8), .int md_members, .int md_provedNow])), ((ad 1), .inl (cs 0, 126, .inl md_mono)), ((ad 2), .inl (cs 0, 126, .inl md_degree)), ((ad 3), .inl (cs 0, 1008, .inl md_generator)), ((ad 5), .inl (cs 2, 126, .inl md_has_14)), ((ad 6), .inl (cs 0, 15876, .inl md_row_21)), ((ad 7), .inl (cs 0, 126, .inl md_work_22))] → va_S A s.heap H locs → lv_has ls 5 [(0, .ref (ad 0)), (1, .int p0), (2, .int x2_13), (3, .int x3_20)] → W p l e (headSpec w_md_findSpace { frames := 3, cells := 0, slots := 0, locals := 70 }).room s m ([.ref (ad 0), .int p0] : List Value).toArray below meth c H locs 0 0 (MQ below (va_Qv (fun (u : (Nat → Int32) × (Nat → Int32) × (Nat → Int32)) => Q u.1 u.2.1 u.2.2) (at_md_findSpace dC dI cs A ad md_thrownCode md_p md_n md_order md_monomials md_generators md_found md_upTo md_members md_provedNow md_mono md_degree md_generator) A) ([.ref (ad 0), .int p0] : List Value).toArray s 0 0 A) (F0 m 166 ls []) := by
                      intro nn
                      induction nn with
                      | zero => intro x3_20 md_row_21 md_work_22 hlt; exact absurd hlt (Nat.not_lt_zero _)
                      | succ nn ih166 =>
                        intro x3_20 md_row_21 md_work_22 hlt166 hI H locs ls hP hD hS hl
                        have hv := hv x3_20 md_row_21 md_work_22 hI
                        refine lv_iload_n hx hb d_md_findSpace_166 rfl (lv_at hl 3 rfl) ?_
                        refine lv_aload_n hx hb d_md_findSpace_167 rfl (lv_at hl 0 rfl) ?_
                        refine va_get (D := (dC, dI)) (ci := 8) (v := .int md_monomials) (C := R_md) (T := F_md) (N := 18) hx hb hts in_md hown hK hP 0 rfl rfl 4 (by decide) (hts _ kw_622) (fun _ h9 => h9) rfl d_md_findSpace_168 ?_
                        refine lv_icmp_ge (tgt := 194) hx hb d_md_findSpace_171 (by decide) (fun c_25 => ?_) (fun c_25 => ?_)
                        · have hv := hv.1 c_25
                          have hP9 := hP.sub (ws' := [((ad 0), .inr (8, [.int md_thrownCode, .int md_p, .int md_n, .int md_order, .int md_monomials, .ref (ad 1), .ref (ad 2), .int md_generators, .ref (ad 3), .ref (ad 4), .int md_found, .int md_upTo, .ref (ad 5), .ref (ad 6), .ref (ad 7), .ref (ad 8), .int md_members, .int md_provedNow])), ((ad 1), .inl (cs 0, 126, .inl md_mono)), ((ad 2), .inl (cs 0, 126, .inl md_degree)), ((ad 3), .inl (cs 0, 1008, .inl md_generator)), ((ad 5), .inl (cs 2, 126, .inl md_has_14)), ((ad 6), .inl (cs 0, 15876, .inl md_row_21)), ((ad 7), .inl (cs 0, 126, .inl md_work_22))]) [0, 1, 2, 3, 4, 5, 6] rfl
                          have hD9 := hD.sub (ws' := [((ad 0), .inr (8, [.int md_thrownCode, .int md_p, .int md_n, .int md_order, .int md_monomials, .ref (ad 1), .ref (ad 2), .int md_generators, .ref (ad 3), .ref (ad 4), .int md_found, .int md_upTo, .ref (ad 5), .ref (ad 6), .ref (ad 7), .ref (ad 8), .int md_members, .int md_provedNow])), ((ad 1), .inl (cs 0, 126, .inl md_mono)), ((ad 2), .inl (cs 0, 126, .inl md_degree)), ((ad 3), .inl (cs 0, 1008, .inl md_generator)), ((ad 5), .inl (cs 2, 126, .inl md_has_14)), ((ad 6), .inl (cs 0, 15876, .inl md_row_21)), ((ad 7), .inl (cs 0, 126, .inl md_work_22))]) [0, 1, 2, 3, 4, 5, 6] (by decide) rfl
                          exact W.vret hx hb hr (fun t ht hW => ⟨⟨(md_has_14, md_row_21, md_work_22), rfl, hv, by rw [ht]; exact hP9, hD9⟩, hS.F ht⟩) hS.2.2 d_md_findSpace_194
                        · have hv := hv.2 c_25
                          refine lv_aload_n hx hb d_md_findSpace_174 rfl (lv_at hl 0 rfl) ?_
                          refine va_get (D := (dC, dI)) (ci := 8) (v := .ref (ad 5)) (C := R_md) (T := F_md) (N := 18) hx hb hts in_md hown hK hP 0 rfl rfl 12 (by decide) (hts _ kw_630) (fun _ h9 => h9) rfl d_md_findSpace_175 ?_
                          refine lv_iload_n hx hb d_md_findSpace_178 rfl (lv_at hl 3 rfl) ?_
                          obtain ⟨hi_26, hv⟩ := hv
                          refine va_zald hx hb hK hP 4 2 rfl rfl hi_26 d_md_findSpace_179 ?_
                          refine lv_if_eq (tgt := 188) hx hb d_md_findSpace_180 (by decide) (fun c_27 => ?_) (fun c_27 => ?_)
                          · have hv := hv.1 c_27
                            obtain ⟨x3_28, ex3_28⟩ : ∃ y : Int32, y = x3_20 + 1 := ⟨_, rfl⟩
                            have hv := hv x3_28 ex3_28
                            refine lv_iinc (v := x3_28) (lv' := [(3, .int x3_28), (0, .ref (ad 0)), (1, .int p0), (2, .int x2_13)]) hx hb d_md_findSpace_188 hl (k := 3) rfl (by rw [ex3_28]; rfl) (by decide) rfl (fun ls hl => ?_)
                            refine lv_goto (tgt := 166) hx hb d_md_findSpace_191 (by decide) ?_
                            exact ih166 x3_28 md_row_21 md_work_22 (Nat.lt_of_lt_of_le hv.2 (Nat.le_of_lt_succ hlt166)) hv.1 _ _ _ (hP.sub [0, 1, 2, 3, 4, 5, 6] rfl) (hD.sub [0, 1, 2, 3, 4, 5, 6] (by decide) rfl) hS (lv_sub hl [1, 2, 3, 0] rfl)
                          · have hv := hv.2 c_27
                            refine lv_aload_n hx hb d_md_findSpace_183 rfl (lv_at hl 0 rfl) ?_
                            refine lv_iload_n hx hb d_md_findSpace_184 rfl (lv_at hl 3 rfl) ?_
                            have hPc := hP.sub (ws' := [((ad 0), .inr (8, [.int md_thrownCode, .int md_p, .int md_n, .int md_order, .int md_monomials, .ref (ad 1), .ref (ad 2), .int md_generators, .ref (ad 3), .ref (ad 4), .int md_found, .int md_upTo, .ref (ad 5), .ref (ad 6), .ref (ad 7), .ref (ad 8), .int md_members, .int md_provedNow])), ((ad 5), .inl (cs 2, 126, .inl md_has_14)), ((ad 6), .inl (cs 0, 15876, .inl md_row_21)), ((ad 7), .inl (cs 0, 126, .inl md_work_22))]) [0, 4, 5, 6] rfl
                            have hDc := hD.sub (ws' := [((ad 0), .inr (8, [.int md_thrownCode, .int md_p, .int md_n, .int md_order, .int md_monomials, .ref (ad 1), .ref (ad 2), .int md_generators, .ref (ad 3), .ref (ad 4), .int md_found, .int md_upTo, .ref (ad 5), .ref (ad 6), .ref (ad 7), .ref (ad 8), .int md_members, .int md_provedNow])), ((ad 5), .inl (cs 2, 126, .inl md_has_14)), ((ad 6), .inl (cs 0, 15876, .inl md_row_21)), ((ad 7), .inl (cs 0, 126, .inl md_work_22))]) [0, 4, 5, 6] (by decide) rfl
                            have hFc := va_free (wc := [((ad 0), .inr (8, [.int md_thrownCode, .int md_p, .int md_n, .int md_order, .int md_monomials, .ref (ad 1), .ref (ad 2), .int md_generators, .ref (ad 3), .ref (ad 4), .int md_found, .int md_upTo, .ref (ad 5), .ref (ad 6), .ref (ad 7), .ref (ad 8), .int md_members, .int md_provedNow])), ((ad 5), .inl (cs 2, 126, .inl md_has_14)), ((ad 6), .inl (cs 0, 15876, .inl md_row_21)), ((ad 7), .inl (cs 0, 126, .inl md_work_22))]) hD hS hA [0, 4, 5, 6] rfl
                            refine va_callv (va_runV (As := [.int x3_20]) (rest := []) ⟨hx, hb, hml, hown, hts⟩ (c_md_clean l dC dI cs ad  H.size md_thrownCode md_p md_n md_order md_monomials md_generators md_found md_upTo md_members md_provedNow md_has_14 md_row_21 md_work_22 x3_20 _ hv) (cwV 1 hts (gd_V kw_729 kw_730 kw_28 kw_41 kw_731) rfl rfl rfl (by decide +kernel) ⟨Nat.le_of_ble_eq_true rfl, Nat.le_of_ble_eq_true rfl⟩) ⟨fun a U g mk q => by obtain ⟨q0, q1, qP, qK, qD⟩ := q; exact ⟨q0, q1, qP, qK.call, qD⟩, va_recv hK hPc (ci := 8) (q0 := 0) rfl rfl, fun U hU hW => ⟨rfl, by rw [hU], by rw [hU]; exact hPc, vwK.warm hW ⟨hK, hN⟩, hDc.weaken (fun _ _ _ _ => trivial)⟩⟩ rfl rfl hl.1 rfl (lv_room (Nat.le_of_ble_eq_true rfl)) d_md_findSpace_185 ⟨Nat.zero_le _, Nat.zero_le _⟩) hS (fun q _ h => hFc q h) hFc (fun u t H1 locs1 ht hvm hw hB hz1 hk1 hS => ?_)
                            obtain ⟨md_row_29, md_work_30⟩ := u
                            obtain ⟨hP1, hD1⟩ := hB
                            rw [ht] at hP1
                            obtain ⟨hP, hD⟩ := va_join (wr := [((ad 1), .inl (cs 0, 126, .inl md_mono)), ((ad 2), .inl (cs 0, 126, .inl md_degree)), ((ad 3), .inl (cs 0, 1008, .inl md_generator))]) (w1 := [((ad 0), .inr (8, [.int md_thrownCode, .int md_p, .int md_n, .int md_order, .int md_monomials, .ref (ad 1), .ref (ad 2), .int md_generators, .ref (ad 3), .ref (ad 4), .int md_found, .int md_upTo, .ref (ad 5), .ref (ad 6), .ref (ad 7), .ref (ad 8), .int md_members, .int md_provedNow])), ((ad 5), .inl (cs 2, 126, .inl md_has_14)), ((ad 6), .inl (cs 0, 15876, .inl md_row_29)), ((ad 7), .inl (cs 0, 126, .inl md_work_30))]) hP hD [0, 4, 5, 6] [1, 2, 3] rfl rfl (by decide) (by decide) hk1 hFc hP1 hD1
                            generalize H1 = H at hP hS ⊢
                            generalize locs1 = locs at hS ⊢
                            have hP : va_P (dC, dI) vwCl [((ad 1), .inl (cs 0, 126, .inl md_mono)), ((ad 2), .inl (cs 0, 126, .inl md_degree)), ((ad 3), .inl (cs 0, 1008, .inl md_generator)), ((ad 0), .inr (8, [.int md_thrownCode, .int md_p, .int md_n, .int md_order, .int md_monomials, .ref (ad 1), .ref (ad 2), .int md_generators, .ref (ad 3), .ref (ad 4), .int md_found, .int md_upTo, .ref (ad 5), .ref (ad 6), .ref (ad 7), .ref (ad 8), .int md_members, .int md_provedNow])), ((ad 5), .inl (cs 2, 126, .inl md_has_14)), ((ad 6), .inl (cs 0, 15876, .inl md_row_29)), ((ad 7), .inl (cs 0, 126, .inl md_work_30))] H := hP
                            have hD : va_D A [((ad 1), .inl (cs 0, 126, .inl md_mono)), ((ad 2), .inl (cs 0, 126, .inl md_degree)), ((ad 3), .inl (cs 0, 1008, .inl md_generator)), ((ad 0), .inr (8, [.int md_thrownCode, .int md_p, .int md_n, .int md_order, .int md_monomials, .ref (ad 1), .ref (ad 2), .int md_generators, .ref (ad 3), .ref (ad 4), .int md_found, .int md_upTo, .ref (ad 5), .ref (ad 6), .ref (ad 7), .ref (ad 8), .int md_members, .int md_provedNow])), ((ad 5), .inl (cs 2, 126, .inl md_has_14)), ((ad 6), .inl (cs 0, 15876, .inl md_row_29)), ((ad 7), .inl (cs 0, 126, .inl md_work_30))] := hD
                            have hv := hw
                            try dsimp only at hv
                            obtain ⟨x3_31, ex3_31⟩ : ∃ y : Int32, y = x3_20 + 1 := ⟨_, rfl⟩
                            have hv := hv x3_31 ex3_31
                            refine lv_iinc (v := x3_31) (lv' := [(3, .int x3_31), (0, .ref (ad 0)), (1, .int p0), (2, .int x2_13)]) hx hb d_md_findSpace_188 hl (k := 3) rfl (by rw [ex3_31]; rfl) (by decide) rfl (fun ls hl => ?_)
                            refine lv_goto (tgt := 166) hx hb d_md_findSpace_191 (by decide) ?_
                            exact ih166 x3_31 md_row_29 md_work_30 (Nat.lt_of_lt_of_le hv.2 (Nat.le_of_lt_succ hlt166)) hv.1 _ _ _ (hP.sub [3, 0, 1, 2, 4, 5, 6] rfl) (hD.sub [3, 0, 1, 2, 4, 5, 6] (by decide) rfl) hS (lv_sub hl [1, 2, 3, 0] rfl)
                    exact loop166 _ 0 md_row_15 md_work_16 (Nat.lt_succ_self _) hi0 _ _ _ hP hD hS hl
                  · have hv := hv.2 c_19
                    refine lv_iconst (v := 0) hx hb d_md_findSpace_90 (by decide) ?_
                    refine lv_istore_n (lv' := [(2, .int 0), (0, .ref (ad 0)), (1, .int p0)]) hx hb d_md_findSpace_91 rfl hl (by decide) rfl (fun ls hl => ?_)
                    refine lv_iconst (v := 0) hx hb d_md_findSpace_92 (by decide) ?_
                    refine lv_istore_n (lv' := [(3, .int 0), (2, .int 0), (0, .ref (ad 0)), (1, .int p0)]) hx hb d_md_findSpace_93 rfl hl (by decide) rfl (fun ls hl => ?_)
                    obtain ⟨I94_37, mu94_38, hi0, hv⟩ := hv
                    have hP := hP.sub (ws' := [((ad 0), .inr (8, [.int md_thrownCode, .int md_p, .int md_n, .int md_order, .int md_monomials, .ref (ad 1), .ref (ad 2), .int md_generators, .ref (ad 3), .ref (ad 4), .int md_found, .int md_upTo, .ref (ad 5), .ref (ad 6), .ref (ad 7), .ref (ad 8), .int md_members, .int md_provedNow])), ((ad 1), .inl (cs 0, 126, .inl md_mono)), ((ad 2), .inl (cs 0, 126, .inl md_degree)), ((ad 3), .inl (cs 0, 1008, .inl md_generator)), ((ad 5), .inl (cs 2, 126, .inl md_has_14)), ((ad 6), .inl (cs 0, 15876, .inl md_row_15)), ((ad 7), .inl (cs 0, 126, .inl md_work_16))]) [0, 1, 2, 3, 4, 5, 6] rfl
                    have hD := hD.sub (ws' := [((ad 0), .inr (8, [.int md_thrownCode, .int md_p, .int md_n, .int md_order, .int md_monomials, .ref (ad 1), .ref (ad 2), .int md_generators, .ref (ad 3), .ref (ad 4), .int md_found, .int md_upTo, .ref (ad 5), .ref (ad 6), .ref (ad 7), .ref (ad 8), .int md_members, .int md_provedNow])), ((ad 1), .inl (cs 0, 126, .inl md_mono)), ((ad 2), .inl (cs 0, 126, .inl md_degree)), ((ad 3), .inl (cs 0, 1008, .inl md_generator)), ((ad 5), .inl (cs 2, 126, .inl md_has_14)), ((ad 6), .inl (cs 0, 15876, .inl md_row_15)), ((ad 7), .inl (cs 0, 126, .inl md_work_16))]) [0, 1, 2, 3, 4, 5, 6] (by decide) rfl
                    have hl := lv_sub (l' := [(0, .ref (ad 0)), (1, .int p0), (2, .int 0), (3, .int 0)]) hl [2, 3, 1, 0] rfl
                    have loop94 : ∀ (nn : Nat) (x2_32 : Int32) (x3_33 : Int32) (md_has_34 : Nat → Int32) (md_row_35 : Nat → Int32) (md_work_36 : Nat → Int32), mu94_38 x2_32 x3_33 md_has_34 md_row_35 md_work_36 < nn → I94_37 x2_32 x3_33 md_has_34 md_row_35 md_work_36 → ∀ (H : Heap) (locs : List Loc) (ls : Array Slot), va_P (dC, dI) vwCl [((ad 0), .inr (8, [.int md_thrownCode, .int md_p, .int md_n, .int md_order, .int md_monomials, .ref (ad 1), .ref (ad 2), .int md_generators, .ref (ad 3), .ref (ad 4), .int md_found, .int md_upTo, .ref (ad 5), .ref (ad 6), .ref (ad 7), .ref (ad 8), .int md_members, .int md_provedNow])), ((ad 1), .inl (cs 0, 126, .inl md_mono)), ((ad 2), .inl (cs 0, 126, .inl md_degree)), ((ad 3), .inl (cs 0, 1008, .inl md_generator)), ((ad 5), .inl (cs 2, 126, .inl md_has_34)), ((ad 6), .inl (cs 0, 15876, .inl md_row_35)), ((ad 7), .inl (cs 0, 126, .inl md_work_36))] H → va_D A [((ad 0), .inr (8, [.int md_thrownCode, .int md_p, .int md_n, .int md_order, .int md_monomials, .ref (ad 1), .ref (ad 2), .int md_generators, .ref (ad 3), .ref (ad 4), .int md_found, .int md_upTo, .ref (ad 5), .ref (ad 6), .ref (ad 7), .ref (ad 8), .int md_members, .int md_provedNow])), ((ad 1), .inl (cs 0, 126, .inl md_mono)), ((ad 2), .inl (cs 0, 126, .inl md_degree)), ((ad 3), .inl (cs 0, 1008, .inl md_generator)), ((ad 5), .inl (cs 2, 126, .inl md_has_34)), ((ad 6), .inl (cs 0, 15876, .inl md_row_35)), ((ad 7), .inl (cs 0, 126, .inl md_work_36))] → va_S A s.heap H locs → lv_has ls 5 [(0, .ref (ad 0)), (1, .int p0), (2, .int x2_32), (3, .int x3_33)] → W p l e (headSpec w_md_findSpace { frames := 3, cells := 0, slots := 0, locals := 70 }).room s m ([.ref (ad 0), .int p0] : List Value).toArray below meth c H locs 0 0 (MQ below (va_Qv (fun (u : (Nat → Int32) × (Nat → Int32) × (Nat → Int32)) => Q u.1 u.2.1 u.2.2) (at_md_findSpace dC dI cs A ad md_thrownCode md_p md_n md_order md_monomials md_generators md_found md_upTo md_members md_provedNow md_mono md_degree md_generator) A) ([.ref (ad 0), .int p0] : List Value).toArray s 0 0 A) (F0 m 94 ls []) := by
                      intro nn
                      induction nn with
                      | zero => intro x2_32 x3_33 md_has_34 md_row_35 md_work_36 hlt; exact absurd hlt (Nat.not_lt_zero _)
                      | succ nn ih94 =>
                        intro x2_32 x3_33 md_has_34 md_row_35 md_work_36 hlt94 hI H locs ls hP hD hS hl
                        have hv := hv x2_32 x3_33 md_has_34 md_row_35 md_work_36 hI
                        refine lv_iload_n hx hb d_md_findSpace_94 rfl (lv_at hl 3 rfl) ?_
                        refine lv_aload_n hx hb d_md_findSpace_95 rfl (lv_at hl 0 rfl) ?_
                        refine va_get (D := (dC, dI)) (ci := 8) (v := .int md_monomials) (C := R_md) (T := F_md) (N := 18) hx hb hts in_md hown hK hP 0 rfl rfl 4 (by decide) (hts _ kw_622) (fun _ h9 => h9) rfl d_md_findSpace_96 ?_
                        refine lv_icmp_ge (tgt := 161) hx hb d_md_findSpace_99 (by decide) (fun c_39 => ?_) (fun c_39 => ?_)
                        · have hv := hv.1 c_39
                          refine lv_goto (tgt := 86) hx hb d_md_findSpace_161 (by decide) ?_
                          exact ih86 x2_32 md_has_34 md_row_35 md_work_36 (Nat.lt_of_lt_of_le hv.2 (Nat.le_of_lt_succ hlt86)) hv.1 _ _ _ (hP.sub [0, 1, 2, 3, 4, 5, 6] rfl) (hD.sub [0, 1, 2, 3, 4, 5, 6] (by decide) rfl) hS (lv_sub hl [0, 1, 2] rfl)
                        · have hv := hv.2 c_39
                          refine lv_iconst (v := 0) hx hb d_md_findSpace_102 (by decide) ?_
                          refine lv_istore (lv' := [(4, .int 0), (0, .ref (ad 0)), (1, .int p0), (2, .int x2_32), (3, .int x3_33)]) hx hb d_md_findSpace_103 hl (by decide) rfl (fun ls hl => ?_)
                          obtain ⟨I105_45, mu105_46, hi0, hv⟩ := hv
                          have hP := hP.sub (ws' := [((ad 0), .inr (8, [.int md_thrownCode, .int md_p, .int md_n, .int md_order, .int md_monomials, .ref (ad 1), .ref (ad 2), .int md_generators, .ref (ad 3), .ref (ad 4), .int md_found, .int md_upTo, .ref (ad 5), .ref (ad 6), .ref (ad 7), .ref (ad 8), .int md_members, .int md_provedNow])), ((ad 1), .inl (cs 0, 126, .inl md_mono)), ((ad 2), .inl (cs 0, 126, .inl md_degree)), ((ad 3), .inl (cs 0, 1008, .inl md_generator)), ((ad 5), .inl (cs 2, 126, .inl md_has_34)), ((ad 6), .inl (cs 0, 15876, .inl md_row_35)), ((ad 7), .inl (cs 0, 126, .inl md_work_36))]) [0, 1, 2, 3, 4, 5, 6] rfl
                          have hD := hD.sub (ws' := [((ad 0), .inr (8, [.int md_thrownCode, .int md_p, .int md_n, .int md_order, .int md_monomials, .ref (ad 1), .ref (ad 2), .int md_generators, .ref (ad 3), .ref (ad 4), .int md_found, .int md_upTo, .ref (ad 5), .ref (ad 6), .ref (ad 7), .ref (ad 8), .int md_members, .int md_provedNow])), ((ad 1), .inl (cs 0, 126, .inl md_mono)), ((ad 2), .inl (cs 0, 126, .inl md_degree)), ((ad 3), .inl (cs 0, 1008, .inl md_generator)), ((ad 5), .inl (cs 2, 126, .inl md_has_34)), ((ad 6), .inl (cs 0, 15876, .inl md_row_35)), ((ad 7), .inl (cs 0, 126, .inl md_work_36))]) [0, 1, 2, 3, 4, 5, 6] (by decide) rfl
                          have hl := lv_sub (l' := [(0, .ref (ad 0)), (1, .int p0), (2, .int x2_32), (3, .int x3_33), (4, .int 0)]) hl [1, 2, 3, 4, 0] rfl
                          have loop105 : ∀ (nn : Nat) (x2_40 : Int32) (x4_41 : Int32) (md_has_42 : Nat → Int32) (md_row_43 : Nat → Int32) (md_work_44 : Nat → Int32), mu105_46 x2_40 x4_41 md_has_42 md_row_43 md_work_44 < nn → I105_45 x2_40 x4_41 md_has_42 md_row_43 md_work_44 → ∀ (H : Heap) (locs : List Loc) (ls : Array Slot), va_P (dC, dI) vwCl [((ad 0), .inr (8, [.int md_thrownCode, .int md_p, .int md_n, .int md_order, .int md_monomials, .ref (ad 1), .ref (ad 2), .int md_generators, .ref (ad 3), .ref (ad 4), .int md_found, .int md_upTo, .ref (ad 5), .ref (ad 6), .ref (ad 7), .ref (ad 8), .int md_members, .int md_provedNow])), ((ad 1), .inl (cs 0, 126, .inl md_mono)), ((ad 2), .inl (cs 0, 126, .inl md_degree)), ((ad 3), .inl (cs 0, 1008, .inl md_generator)), ((ad 5), .inl (cs 2, 126, .inl md_has_42)), ((ad 6), .inl (cs 0, 15876, .inl md_row_43)), ((ad 7), .inl (cs 0, 126, .inl md_work_44))] H → va_D A [((ad 0), .inr (8, [.int md_thrownCode, .int md_p, .int md_n, .int md_order, .int md_monomials, .ref (ad 1), .ref (ad 2), .int md_generators, .ref (ad 3), .ref (ad 4), .int md_found, .int md_upTo, .ref (ad 5), .ref (ad 6), .ref (ad 7), .ref (ad 8), .int md_members, .int md_provedNow])), ((ad 1), .inl (cs 0, 126, .inl md_mono)), ((ad 2), .inl (cs 0, 126, .inl md_degree)), ((ad 3), .inl (cs 0, 1008, .inl md_generator)), ((ad 5), .inl (cs 2, 126, .inl md_has_42)), ((ad 6), .inl (cs 0, 15876, .inl md_row_43)), ((ad 7), .inl (cs 0, 126, .inl md_work_44))] → va_S A s.heap H locs → lv_has ls 5 [(0, .ref (ad 0)), (1, .int p0), (2, .int x2_40), (3, .int x3_33), (4, .int x4_41)] → W p l e (headSpec w_md_findSpace { frames := 3, cells := 0, slots := 0, locals := 70 }).room s m ([.ref (ad 0), .int p0] : List Value).toArray below meth c H locs 0 0 (MQ below (va_Qv (fun (u : (Nat → Int32) × (Nat → Int32) × (Nat → Int32)) => Q u.1 u.2.1 u.2.2) (at_md_findSpace dC dI cs A ad md_thrownCode md_p md_n md_order md_monomials md_generators md_found md_upTo md_members md_provedNow md_mono md_degree md_generator) A) ([.ref (ad 0), .int p0] : List Value).toArray s 0 0 A) (F0 m 105 ls []) := by
                            intro nn
                            induction nn with
                            | zero => intro x2_40 x4_41 md_has_42 md_row_43 md_work_44 hlt; exact absurd hlt (Nat.not_lt_zero _)
                            | succ nn ih105 =>
                              intro x2_40 x4_41 md_has_42 md_row_43 md_work_44 hlt105 hI H locs ls hP hD hS hl
                              have hv := hv x2_40 x4_41 md_has_42 md_row_43 md_work_44 hI
                              refine lv_iload hx hb d_md_findSpace_105 (lv_at hl 4 rfl) ?_
                              refine lv_aload_n hx hb d_md_findSpace_107 rfl (lv_at hl 0 rfl) ?_
                              refine va_get (D := (dC, dI)) (ci := 8) (v := .int md_n) (C := R_md) (T := F_md) (N := 18) hx hb hts in_md hown hK hP 0 rfl rfl 2 (by decide) (hts _ kw_620) (fun _ h9 => h9) rfl d_md_findSpace_108 ?_
                              refine lv_icmp_ge (tgt := 155) hx hb d_md_findSpace_111 (by decide) (fun c_47 => ?_) (fun c_47 => ?_)
                              · have hv := hv.1 c_47
                                obtain ⟨x3_48, ex3_48⟩ : ∃ y : Int32, y = x3_33 + 1 := ⟨_, rfl⟩
                                have hv := hv x3_48 ex3_48
                                refine lv_iinc (v := x3_48) (lv' := [(3, .int x3_48), (0, .ref (ad 0)), (1, .int p0), (2, .int x2_40), (4, .int x4_41)]) hx hb d_md_findSpace_155 hl (k := 3) rfl (by rw [ex3_48]; rfl) (by decide) rfl (fun ls hl => ?_)
                                refine lv_goto (tgt := 94) hx hb d_md_findSpace_158 (by decide) ?_
                                exact ih94 x2_40 x3_48 md_has_42 md_row_43 md_work_44 (Nat.lt_of_lt_of_le hv.2 (Nat.le_of_lt_succ hlt94)) hv.1 _ _ _ (hP.sub [0, 1, 2, 3, 4, 5, 6] rfl) (hD.sub [0, 1, 2, 3, 4, 5, 6] (by decide) rfl) hS (lv_sub hl [1, 2, 3, 0] rfl)
                              · have hv := hv.2 c_47
                                refine lv_aload_n hx hb d_md_findSpace_114 rfl (lv_at hl 0 rfl) ?_
                                refine va_get (D := (dC, dI)) (ci := 8) (v := .ref (ad 5)) (C := R_md) (T := F_md) (N := 18) hx hb hts in_md hown hK hP 0 rfl rfl 12 (by decide) (hts _ kw_630) (fun _ h9 => h9) rfl d_md_findSpace_115 ?_
                                refine lv_iload_n hx hb d_md_findSpace_118 rfl (lv_at hl 3 rfl) ?_
                                obtain ⟨hi_49, hv⟩ := hv
                                refine va_zald hx hb hK hP 4 2 rfl rfl hi_49 d_md_findSpace_119 ?_
                                refine lv_if_eq (tgt := 155) hx hb d_md_findSpace_120 (by decide) (fun c_50 => ?_) (fun c_50 => ?_)
                                · have hv := hv.1 c_50
                                  obtain ⟨x3_51, ex3_51⟩ : ∃ y : Int32, y = x3_33 + 1 := ⟨_, rfl⟩
                                  have hv := hv x3_51 ex3_51
                                  refine lv_iinc (v := x3_51) (lv' := [(3, .int x3_51), (0, .ref (ad 0)), (1, .int p0), (2, .int x2_40), (4, .int x4_41)]) hx hb d_md_findSpace_155 hl (k := 3) rfl (by rw [ex3_51]; rfl) (by decide) rfl (fun ls hl => ?_)
                                  refine lv_goto (tgt := 94) hx hb d_md_findSpace_158 (by decide) ?_
                                  exact ih94 x2_40 x3_51 md_has_42 md_row_43 md_work_44 (Nat.lt_of_lt_of_le hv.2 (Nat.le_of_lt_succ hlt94)) hv.1 _ _ _ (hP.sub [0, 1, 2, 3, 4, 5, 6] rfl) (hD.sub [0, 1, 2, 3, 4, 5, 6] (by decide) rfl) hS (lv_sub hl [1, 2, 3, 0] rfl)
                                · have hv := hv.2 c_50
                                  refine lv_aload_n hx hb d_md_findSpace_123 rfl (lv_at hl 0 rfl) ?_
                                  refine va_get (D := (dC, dI)) (ci := 8) (v := .ref (ad 2)) (C := R_md) (T := F_md) (N := 18) hx hb hts in_md hown hK hP 0 rfl rfl 6 (by decide) (hts _ kw_624) (fun _ h9 => h9) rfl d_md_findSpace_124 ?_
                                  refine lv_iload_n hx hb d_md_findSpace_127 rfl (lv_at hl 3 rfl) ?_
                                  obtain ⟨hi_52, hv⟩ := hv
                                  refine va_iald hx hb hK hP 2 0 rfl rfl hi_52 d_md_findSpace_128 ?_
                                  refine lv_iload_n hx hb d_md_findSpace_129 rfl (lv_at hl 1 rfl) ?_
                                  refine lv_icmp_ge (tgt := 155) hx hb d_md_findSpace_130 (by decide) (fun c_53 => ?_) (fun c_53 => ?_)
                                  · have hv := hv.1 c_53
                                    obtain ⟨x3_54, ex3_54⟩ : ∃ y : Int32, y = x3_33 + 1 := ⟨_, rfl⟩
                                    have hv := hv x3_54 ex3_54
                                    refine lv_iinc (v := x3_54) (lv' := [(3, .int x3_54), (0, .ref (ad 0)), (1, .int p0), (2, .int x2_40), (4, .int x4_41)]) hx hb d_md_findSpace_155 hl (k := 3) rfl (by rw [ex3_54]; rfl) (by decide) rfl (fun ls hl => ?_)
                                    refine lv_goto (tgt := 94) hx hb d_md_findSpace_158 (by decide) ?_
                                    exact ih94 x2_40 x3_54 md_has_42 md_row_43 md_work_44 (Nat.lt_of_lt_of_le hv.2 (Nat.le_of_lt_succ hlt94)) hv.1 _ _ _ (hP.sub [0, 1, 2, 3, 4, 5, 6] rfl) (hD.sub [0, 1, 2, 3, 4, 5, 6] (by decide) rfl) hS (lv_sub hl [1, 2, 3, 0] rfl)
                                  · have hv := hv.2 c_53
                                    refine lv_aload_n hx hb d_md_findSpace_133 rfl (lv_at hl 0 rfl) ?_
                                    refine lv_iload_n hx hb d_md_findSpace_134 rfl (lv_at hl 3 rfl) ?_
                                    refine lv_iload hx hb d_md_findSpace_135 (lv_at hl 4 rfl) ?_
                                    have hPc := hP.sub (ws' := [((ad 0), .inr (8, [.int md_thrownCode, .int md_p, .int md_n, .int md_order, .int md_monomials, .ref (ad 1), .ref (ad 2), .int md_generators, .ref (ad 3), .ref (ad 4), .int md_found, .int md_upTo, .ref (ad 5), .ref (ad 6), .ref (ad 7), .ref (ad 8), .int md_members, .int md_provedNow])), ((ad 1), .inl (cs 0, 126, .inl md_mono)), ((ad 6), .inl (cs 0, 15876, .inl md_row_43)), ((ad 7), .inl (cs 0, 126, .inl md_work_44))]) [0, 1, 5, 6] rfl
                                    have hDc := hD.sub (ws' := [((ad 0), .inr (8, [.int md_thrownCode, .int md_p, .int md_n, .int md_order, .int md_monomials, .ref (ad 1), .ref (ad 2), .int md_generators, .ref (ad 3), .ref (ad 4), .int md_found, .int md_upTo, .ref (ad 5), .ref (ad 6), .ref (ad 7), .ref (ad 8), .int md_members, .int md_provedNow])), ((ad 1), .inl (cs 0, 126, .inl md_mono)), ((ad 6), .inl (cs 0, 15876, .inl md_row_43)), ((ad 7), .inl (cs 0, 126, .inl md_work_44))]) [0, 1, 5, 6] (by decide) rfl
                                    have hFc := va_free (wc := [((ad 0), .inr (8, [.int md_thrownCode, .int md_p, .int md_n, .int md_order, .int md_monomials, .ref (ad 1), .ref (ad 2), .int md_generators, .ref (ad 3), .ref (ad 4), .int md_found, .int md_upTo, .ref (ad 5), .ref (ad 6), .ref (ad 7), .ref (ad 8), .int md_members, .int md_provedNow])), ((ad 1), .inl (cs 0, 126, .inl md_mono)), ((ad 6), .inl (cs 0, 15876, .inl md_row_43)), ((ad 7), .inl (cs 0, 126, .inl md_work_44))]) hD hS hA [0, 1, 5, 6] rfl
                                    refine va_callv (va_runV (As := [.int x3_33, .int x4_41]) (rest := []) ⟨hx, hb, hml, hown, hts⟩ (c_md_multiplied l dC dI cs ad  H.size md_thrownCode md_p md_n md_order md_monomials md_generators md_found md_upTo md_members md_provedNow md_mono md_row_43 md_work_44 x3_33 x4_41 _ hv) (cwV 2 hts (gd_V kw_726 kw_727 kw_27 kw_41 kw_728) rfl rfl rfl (by decide +kernel) ⟨Nat.le_of_ble_eq_true rfl, Nat.le_of_ble_eq_true rfl⟩) ⟨fun a U g mk q => by obtain ⟨q0, q1, qP, qK, qD⟩ := q; exact ⟨q0, q1, qP, qK.call, qD⟩, va_recv hK hPc (ci := 8) (q0 := 0) rfl rfl, fun U hU hW => ⟨rfl, by rw [hU], by rw [hU]; exact hPc, vwK.warm hW ⟨hK, hN⟩, hDc.weaken (fun _ _ _ _ => trivial)⟩⟩ rfl rfl hl.1 rfl (lv_room (Nat.le_of_ble_eq_true rfl)) d_md_findSpace_137 ⟨Nat.zero_le _, Nat.zero_le _⟩) hS (fun q _ h => hFc q h) hFc (fun md_work_55 t H1 locs1 ht hvm hw hB hz1 hk1 hS => ?_)
                                    obtain ⟨hP1, hD1⟩ := hB
                                    rw [ht] at hP1
                                    obtain ⟨hP, hD⟩ := va_join (wr := [((ad 2), .inl (cs 0, 126, .inl md_degree)), ((ad 3), .inl (cs 0, 1008, .inl md_generator)), ((ad 5), .inl (cs 2, 126, .inl md_has_42))]) (w1 := [((ad 0), .inr (8, [.int md_thrownCode, .int md_p, .int md_n, .int md_order, .int md_monomials, .ref (ad 1), .ref (ad 2), .int md_generators, .ref (ad 3), .ref (ad 4), .int md_found, .int md_upTo, .ref (ad 5), .ref (ad 6), .ref (ad 7), .ref (ad 8), .int md_members, .int md_provedNow])), ((ad 1), .inl (cs 0, 126, .inl md_mono)), ((ad 6), .inl (cs 0, 15876, .inl md_row_43)), ((ad 7), .inl (cs 0, 126, .inl md_work_55))]) hP hD [0, 1, 5, 6] [2, 3, 4] rfl rfl (by decide) (by decide) hk1 hFc hP1 hD1
                                    generalize H1 = H at hP hS ⊢
                                    generalize locs1 = locs at hS ⊢
                                    have hP : va_P (dC, dI) vwCl [((ad 2), .inl (cs 0, 126, .inl md_degree)), ((ad 3), .inl (cs 0, 1008, .inl md_generator)), ((ad 5), .inl (cs 2, 126, .inl md_has_42)), ((ad 0), .inr (8, [.int md_thrownCode, .int md_p, .int md_n, .int md_order, .int md_monomials, .ref (ad 1), .ref (ad 2), .int md_generators, .ref (ad 3), .ref (ad 4), .int md_found, .int md_upTo, .ref (ad 5), .ref (ad 6), .ref (ad 7), .ref (ad 8), .int md_members, .int md_provedNow])), ((ad 1), .inl (cs 0, 126, .inl md_mono)), ((ad 6), .inl (cs 0, 15876, .inl md_row_43)), ((ad 7), .inl (cs 0, 126, .inl md_work_55))] H := hP
                                    have hD : va_D A [((ad 2), .inl (cs 0, 126, .inl md_degree)), ((ad 3), .inl (cs 0, 1008, .inl md_generator)), ((ad 5), .inl (cs 2, 126, .inl md_has_42)), ((ad 0), .inr (8, [.int md_thrownCode, .int md_p, .int md_n, .int md_order, .int md_monomials, .ref (ad 1), .ref (ad 2), .int md_generators, .ref (ad 3), .ref (ad 4), .int md_found, .int md_upTo, .ref (ad 5), .ref (ad 6), .ref (ad 7), .ref (ad 8), .int md_members, .int md_provedNow])), ((ad 1), .inl (cs 0, 126, .inl md_mono)), ((ad 6), .inl (cs 0, 15876, .inl md_row_43)), ((ad 7), .inl (cs 0, 126, .inl md_work_55))] := hD
                                    have hv := hw
                                    try dsimp only at hv
                                    refine lv_aload_n hx hb d_md_findSpace_140 rfl (lv_at hl 0 rfl) ?_
                                    have hPc := hP.sub (ws' := [((ad 0), .inr (8, [.int md_thrownCode, .int md_p, .int md_n, .int md_order, .int md_monomials, .ref (ad 1), .ref (ad 2), .int md_generators, .ref (ad 3), .ref (ad 4), .int md_found, .int md_upTo, .ref (ad 5), .ref (ad 6), .ref (ad 7), .ref (ad 8), .int md_members, .int md_provedNow])), ((ad 5), .inl (cs 2, 126, .inl md_has_42)), ((ad 6), .inl (cs 0, 15876, .inl md_row_43)), ((ad 7), .inl (cs 0, 126, .inl md_work_55))]) [3, 2, 5, 6] rfl
                                    have hDc := hD.sub (ws' := [((ad 0), .inr (8, [.int md_thrownCode, .int md_p, .int md_n, .int md_order, .int md_monomials, .ref (ad 1), .ref (ad 2), .int md_generators, .ref (ad 3), .ref (ad 4), .int md_found, .int md_upTo, .ref (ad 5), .ref (ad 6), .ref (ad 7), .ref (ad 8), .int md_members, .int md_provedNow])), ((ad 5), .inl (cs 2, 126, .inl md_has_42)), ((ad 6), .inl (cs 0, 15876, .inl md_row_43)), ((ad 7), .inl (cs 0, 126, .inl md_work_55))]) [3, 2, 5, 6] (by decide) rfl
                                    have hFc := va_free (wc := [((ad 0), .inr (8, [.int md_thrownCode, .int md_p, .int md_n, .int md_order, .int md_monomials, .ref (ad 1), .ref (ad 2), .int md_generators, .ref (ad 3), .ref (ad 4), .int md_found, .int md_upTo, .ref (ad 5), .ref (ad 6), .ref (ad 7), .ref (ad 8), .int md_members, .int md_provedNow])), ((ad 5), .inl (cs 2, 126, .inl md_has_42)), ((ad 6), .inl (cs 0, 15876, .inl md_row_43)), ((ad 7), .inl (cs 0, 126, .inl md_work_55))]) hD hS hA [3, 2, 5, 6] rfl
                                    refine va_calli (va_runV (As := []) (rest := []) ⟨hx, hb, hml, hown, hts⟩ (c_md_comes l dC dI cs ad  H.size md_thrownCode md_p md_n md_order md_monomials md_generators md_found md_upTo md_members md_provedNow md_has_42 md_row_43 md_work_55 _ hv) (cwV 0 hts (gd_V kw_714 kw_715 kw_23 kw_41 kw_716) rfl rfl rfl (by decide +kernel) ⟨Nat.le_of_ble_eq_true rfl, Nat.le_of_ble_eq_true rfl⟩) ⟨fun a U g mk q => by obtain ⟨q0, q1, qP, qK, qD⟩ := q; exact ⟨q0, q1, qP, qK.call, qD⟩, va_recv hK hPc (ci := 8) (q0 := 0) rfl rfl, fun U hU hW => ⟨rfl, by rw [hU], by rw [hU]; exact hPc, vwK.warm hW ⟨hK, hN⟩, hDc.weaken (fun _ _ _ _ => trivial)⟩⟩ rfl rfl hl.1 rfl (lv_room (Nat.le_of_ble_eq_true rfl)) d_md_findSpace_141 ⟨Nat.zero_le _, Nat.zero_le _⟩) hS (fun q _ h => hFc q h) hFc (fun r_59 u t H1 locs1 ht hvm hw hB hz1 hk1 hS => ?_)
                                    obtain ⟨md_has_56, md_row_57, md_work_58⟩ := u
                                    obtain ⟨hP1, hD1⟩ := hB
                                    rw [ht] at hP1
                                    obtain ⟨hP, hD⟩ := va_join (wr := [((ad 2), .inl (cs 0, 126, .inl md_degree)), ((ad 3), .inl (cs 0, 1008, .inl md_generator)), ((ad 1), .inl (cs 0, 126, .inl md_mono))]) (w1 := [((ad 0), .inr (8, [.int md_thrownCode, .int md_p, .int md_n, .int md_order, .int md_monomials, .ref (ad 1), .ref (ad 2), .int md_generators, .ref (ad 3), .ref (ad 4), .int md_found, .int md_upTo, .ref (ad 5), .ref (ad 6), .ref (ad 7), .ref (ad 8), .int md_members, .int md_provedNow])), ((ad 5), .inl (cs 2, 126, .inl md_has_56)), ((ad 6), .inl (cs 0, 15876, .inl md_row_57)), ((ad 7), .inl (cs 0, 126, .inl md_work_58))]) hP hD [3, 2, 5, 6] [0, 1, 4] rfl rfl (by decide) (by decide) hk1 hFc hP1 hD1
                                    generalize H1 = H at hP hS ⊢
                                    generalize locs1 = locs at hS ⊢
                                    have hP : va_P (dC, dI) vwCl [((ad 2), .inl (cs 0, 126, .inl md_degree)), ((ad 3), .inl (cs 0, 1008, .inl md_generator)), ((ad 1), .inl (cs 0, 126, .inl md_mono)), ((ad 0), .inr (8, [.int md_thrownCode, .int md_p, .int md_n, .int md_order, .int md_monomials, .ref (ad 1), .ref (ad 2), .int md_generators, .ref (ad 3), .ref (ad 4), .int md_found, .int md_upTo, .ref (ad 5), .ref (ad 6), .ref (ad 7), .ref (ad 8), .int md_members, .int md_provedNow])), ((ad 5), .inl (cs 2, 126, .inl md_has_56)), ((ad 6), .inl (cs 0, 15876, .inl md_row_57)), ((ad 7), .inl (cs 0, 126, .inl md_work_58))] H := hP
                                    have hD : va_D A [((ad 2), .inl (cs 0, 126, .inl md_degree)), ((ad 3), .inl (cs 0, 1008, .inl md_generator)), ((ad 1), .inl (cs 0, 126, .inl md_mono)), ((ad 0), .inr (8, [.int md_thrownCode, .int md_p, .int md_n, .int md_order, .int md_monomials, .ref (ad 1), .ref (ad 2), .int md_generators, .ref (ad 3), .ref (ad 4), .int md_found, .int md_upTo, .ref (ad 5), .ref (ad 6), .ref (ad 7), .ref (ad 8), .int md_members, .int md_provedNow])), ((ad 5), .inl (cs 2, 126, .inl md_has_56)), ((ad 6), .inl (cs 0, 15876, .inl md_row_57)), ((ad 7), .inl (cs 0, 126, .inl md_work_58))] := hD
                                    have hv := hw
                                    try dsimp only at hv
                                    refine lv_if_eq (tgt := 149) hx hb d_md_findSpace_144 (by decide) (fun c_60 => ?_) (fun c_60 => ?_)
                                    · have hv := hv.1 c_60
                                      obtain ⟨x4_61, ex4_61⟩ : ∃ y : Int32, y = x4_41 + 1 := ⟨_, rfl⟩
                                      have hv := hv x4_61 ex4_61
                                      refine lv_iinc (v := x4_61) (lv' := [(4, .int x4_61), (0, .ref (ad 0)), (1, .int p0), (2, .int x2_40), (3, .int x3_33)]) hx hb d_md_findSpace_149 hl (k := 4) rfl (by rw [ex4_61]; rfl) (by decide) rfl (fun ls hl => ?_)
                                      refine lv_goto (tgt := 105) hx hb d_md_findSpace_152 (by decide) ?_
                                      exact ih105 x2_40 x4_61 md_has_56 md_row_57 md_work_58 (Nat.lt_of_lt_of_le hv.2 (Nat.le_of_lt_succ hlt105)) hv.1 _ _ _ (hP.sub [3, 2, 0, 1, 4, 5, 6] rfl) (hD.sub [3, 2, 0, 1, 4, 5, 6] (by decide) rfl) hS (lv_sub hl [1, 2, 3, 4, 0] rfl)
                                    · have hv := hv.2 c_60
                                      refine lv_iconst (v := 1) hx hb d_md_findSpace_147 (by decide) ?_
                                      refine lv_istore_n (lv' := [(2, .int 1), (0, .ref (ad 0)), (1, .int p0), (3, .int x3_33), (4, .int x4_41)]) hx hb d_md_findSpace_148 rfl hl (by decide) rfl (fun ls hl => ?_)
                                      obtain ⟨x4_62, ex4_62⟩ : ∃ y : Int32, y = x4_41 + 1 := ⟨_, rfl⟩
                                      have hv := hv x4_62 ex4_62
                                      refine lv_iinc (v := x4_62) (lv' := [(4, .int x4_62), (2, .int 1), (0, .ref (ad 0)), (1, .int p0), (3, .int x3_33)]) hx hb d_md_findSpace_149 hl (k := 4) rfl (by rw [ex4_62]; rfl) (by decide) rfl (fun ls hl => ?_)
                                      refine lv_goto (tgt := 105) hx hb d_md_findSpace_152 (by decide) ?_
                                      exact ih105 1 x4_62 md_has_56 md_row_57 md_work_58 (Nat.lt_of_lt_of_le hv.2 (Nat.le_of_lt_succ hlt105)) hv.1 _ _ _ (hP.sub [3, 2, 0, 1, 4, 5, 6] rfl) (hD.sub [3, 2, 0, 1, 4, 5, 6] (by decide) rfl) hS (lv_sub hl [2, 3, 1, 4, 0] rfl)
                          exact loop105 _ x2_32 0 md_has_34 md_row_35 md_work_36 (Nat.lt_succ_self _) hi0 _ _ _ hP hD hS hl
                    exact loop94 _ 0 0 md_has_14 md_row_15 md_work_16 (Nat.lt_succ_self _) hi0 _ _ _ hP hD hS hl
              exact loop86 _ 1 md_has_7 md_row_8 md_work_9 (Nat.lt_succ_self _) hi0 _ _ _ hP hD hS hl
            · have hv := hv.2 c_12
              refine lv_aload_n hx hb d_md_findSpace_31 rfl (lv_at hl 0 rfl) ?_
              refine lv_iload_n hx hb d_md_findSpace_32 rfl (lv_at hl 2 rfl) ?_
              have hPc := hP.sub (ws' := [((ad 0), .inr (8, [.int md_thrownCode, .int md_p, .int md_n, .int md_order, .int md_monomials, .ref (ad 1), .ref (ad 2), .int md_generators, .ref (ad 3), .ref (ad 4), .int md_found, .int md_upTo, .ref (ad 5), .ref (ad 6), .ref (ad 7), .ref (ad 8), .int md_members, .int md_provedNow])), ((ad 2), .inl (cs 0, 126, .inl md_degree)), ((ad 3), .inl (cs 0, 1008, .inl md_generator))]) [0, 2, 3] rfl
              have hDc := hD.sub (ws' := [((ad 0), .inr (8, [.int md_thrownCode, .int md_p, .int md_n, .int md_order, .int md_monomials, .ref (ad 1), .ref (ad 2), .int md_generators, .ref (ad 3), .ref (ad 4), .int md_found, .int md_upTo, .ref (ad 5), .ref (ad 6), .ref (ad 7), .ref (ad 8), .int md_members, .int md_provedNow])), ((ad 2), .inl (cs 0, 126, .inl md_degree)), ((ad 3), .inl (cs 0, 1008, .inl md_generator))]) [0, 2, 3] (by decide) rfl
              have hFc := va_free (wc := [((ad 0), .inr (8, [.int md_thrownCode, .int md_p, .int md_n, .int md_order, .int md_monomials, .ref (ad 1), .ref (ad 2), .int md_generators, .ref (ad 3), .ref (ad 4), .int md_found, .int md_upTo, .ref (ad 5), .ref (ad 6), .ref (ad 7), .ref (ad 8), .int md_members, .int md_provedNow])), ((ad 2), .inl (cs 0, 126, .inl md_degree)), ((ad 3), .inl (cs 0, 1008, .inl md_generator))]) hD hS hA [0, 2, 3] rfl
              refine va_calli (va_runV (As := [.int x2_6]) (rest := []) ⟨hx, hb, hml, hown, hts⟩ (c_md_degreeOfGenerator l dC dI cs ad  H.size md_thrownCode md_p md_n md_order md_monomials md_generators md_found md_upTo md_members md_provedNow md_degree md_generator x2_6 _ hv) (cwV 1 hts (gd_V kw_711 kw_712 kw_22 kw_41 kw_713) rfl rfl rfl (by decide +kernel) ⟨Nat.le_of_ble_eq_true rfl, Nat.le_of_ble_eq_true rfl⟩) ⟨fun a U g mk q => by obtain ⟨q0, q1, qP, qK, qD⟩ := q; exact ⟨q0, q1, qP, qK.call, qD⟩, va_recv hK hPc (ci := 8) (q0 := 0) rfl rfl, fun U hU hW => ⟨rfl, by rw [hU], by rw [hU]; exact hPc, vwK.warm hW ⟨hK, hN⟩, hDc.weaken (fun _ _ _ _ => trivial)⟩⟩ rfl rfl hl.1 rfl (lv_room (Nat.le_of_ble_eq_true rfl)) d_md_findSpace_33 ⟨Nat.zero_le _, Nat.zero_le _⟩) hS (fun q _ h => hFc q h) hFc (fun r_63 _u t H1 locs1 ht hvm hw hB hz1 hk1 hS => ?_)
              obtain ⟨hP1, hD1⟩ := hB
              rw [ht] at hP1
              obtain ⟨hP, hD⟩ := va_join (wr := [((ad 1), .inl (cs 0, 126, .inl md_mono)), ((ad 5), .inl (cs 2, 126, .inl md_has_7)), ((ad 6), .inl (cs 0, 15876, .inl md_row_8)), ((ad 7), .inl (cs 0, 126, .inl md_work_9))]) (w1 := [((ad 0), .inr (8, [.int md_thrownCode, .int md_p, .int md_n, .int md_order, .int md_monomials, .ref (ad 1), .ref (ad 2), .int md_generators, .ref (ad 3), .ref (ad 4), .int md_found, .int md_upTo, .ref (ad 5), .ref (ad 6), .ref (ad 7), .ref (ad 8), .int md_members, .int md_provedNow])), ((ad 2), .inl (cs 0, 126, .inl md_degree)), ((ad 3), .inl (cs 0, 1008, .inl md_generator))]) hP hD [0, 2, 3] [1, 4, 5, 6] rfl rfl (by decide) (by decide) hk1 hFc hP1 hD1
              generalize H1 = H at hP hS ⊢
              generalize locs1 = locs at hS ⊢
              have hP : va_P (dC, dI) vwCl [((ad 1), .inl (cs 0, 126, .inl md_mono)), ((ad 5), .inl (cs 2, 126, .inl md_has_7)), ((ad 6), .inl (cs 0, 15876, .inl md_row_8)), ((ad 7), .inl (cs 0, 126, .inl md_work_9)), ((ad 0), .inr (8, [.int md_thrownCode, .int md_p, .int md_n, .int md_order, .int md_monomials, .ref (ad 1), .ref (ad 2), .int md_generators, .ref (ad 3), .ref (ad 4), .int md_found, .int md_upTo, .ref (ad 5), .ref (ad 6), .ref (ad 7), .ref (ad 8), .int md_members, .int md_provedNow])), ((ad 2), .inl (cs 0, 126, .inl md_degree)), ((ad 3), .inl (cs 0, 1008, .inl md_generator))] H := hP
              have hD : va_D A [((ad 1), .inl (cs 0, 126, .inl md_mono)), ((ad 5), .inl (cs 2, 126, .inl md_has_7)), ((ad 6), .inl (cs 0, 15876, .inl md_row_8)), ((ad 7), .inl (cs 0, 126, .inl md_work_9)), ((ad 0), .inr (8, [.int md_thrownCode, .int md_p, .int md_n, .int md_order, .int md_monomials, .ref (ad 1), .ref (ad 2), .int md_generators, .ref (ad 3), .ref (ad 4), .int md_found, .int md_upTo, .ref (ad 5), .ref (ad 6), .ref (ad 7), .ref (ad 8), .int md_members, .int md_provedNow])), ((ad 2), .inl (cs 0, 126, .inl md_degree)), ((ad 3), .inl (cs 0, 1008, .inl md_generator))] := hD
              have hv := hw
              try dsimp only at hv
              refine lv_iload_n hx hb d_md_findSpace_36 rfl (lv_at hl 1 rfl) ?_
              refine lv_icmp_gt (tgt := 78) hx hb d_md_findSpace_37 (by decide) (fun c_64 => ?_) (fun c_64 => ?_)
              · have hv := hv.1 c_64
                obtain ⟨x2_65, ex2_65⟩ : ∃ y : Int32, y = x2_6 + 1 := ⟨_, rfl⟩
                have hv := hv x2_65 ex2_65
                refine lv_iinc (v := x2_65) (lv' := [(2, .int x2_65), (0, .ref (ad 0)), (1, .int p0)]) hx hb d_md_findSpace_78 hl (k := 2) rfl (by rw [ex2_65]; rfl) (by decide) rfl (fun ls hl => ?_)
                refine lv_goto (tgt := 23) hx hb d_md_findSpace_81 (by decide) ?_
                exact ih23 x2_65 md_has_7 md_row_8 md_work_9 (Nat.lt_of_lt_of_le hv.2 (Nat.le_of_lt_succ hlt23)) hv.1 _ _ _ (hP.sub [4, 0, 5, 6, 1, 2, 3] rfl) (hD.sub [4, 0, 5, 6, 1, 2, 3] (by decide) rfl) hS (lv_sub hl [1, 2, 0] rfl)
              · have hv := hv.2 c_64
                refine lv_iconst (v := 0) hx hb d_md_findSpace_40 (by decide) ?_
                refine lv_istore_n (lv' := [(3, .int 0), (0, .ref (ad 0)), (1, .int p0), (2, .int x2_6)]) hx hb d_md_findSpace_41 rfl hl (by decide) rfl (fun ls hl => ?_)
                obtain ⟨I42_68, mu42_69, hi0, hv⟩ := hv
                have hP := hP.sub (ws' := [((ad 0), .inr (8, [.int md_thrownCode, .int md_p, .int md_n, .int md_order, .int md_monomials, .ref (ad 1), .ref (ad 2), .int md_generators, .ref (ad 3), .ref (ad 4), .int md_found, .int md_upTo, .ref (ad 5), .ref (ad 6), .ref (ad 7), .ref (ad 8), .int md_members, .int md_provedNow])), ((ad 1), .inl (cs 0, 126, .inl md_mono)), ((ad 2), .inl (cs 0, 126, .inl md_degree)), ((ad 3), .inl (cs 0, 1008, .inl md_generator)), ((ad 5), .inl (cs 2, 126, .inl md_has_7)), ((ad 6), .inl (cs 0, 15876, .inl md_row_8)), ((ad 7), .inl (cs 0, 126, .inl md_work_9))]) [4, 0, 5, 6, 1, 2, 3] rfl
                have hD := hD.sub (ws' := [((ad 0), .inr (8, [.int md_thrownCode, .int md_p, .int md_n, .int md_order, .int md_monomials, .ref (ad 1), .ref (ad 2), .int md_generators, .ref (ad 3), .ref (ad 4), .int md_found, .int md_upTo, .ref (ad 5), .ref (ad 6), .ref (ad 7), .ref (ad 8), .int md_members, .int md_provedNow])), ((ad 1), .inl (cs 0, 126, .inl md_mono)), ((ad 2), .inl (cs 0, 126, .inl md_degree)), ((ad 3), .inl (cs 0, 1008, .inl md_generator)), ((ad 5), .inl (cs 2, 126, .inl md_has_7)), ((ad 6), .inl (cs 0, 15876, .inl md_row_8)), ((ad 7), .inl (cs 0, 126, .inl md_work_9))]) [4, 0, 5, 6, 1, 2, 3] (by decide) rfl
                have hl := lv_sub (l' := [(0, .ref (ad 0)), (1, .int p0), (2, .int x2_6), (3, .int 0)]) hl [1, 2, 3, 0] rfl
                have loop42 : ∀ (nn : Nat) (x3_66 : Int32) (md_work_67 : Nat → Int32), mu42_69 x3_66 md_work_67 < nn → I42_68 x3_66 md_work_67 → ∀ (H : Heap) (locs : List Loc) (ls : Array Slot), va_P (dC, dI) vwCl [((ad 0), .inr (8, [.int md_thrownCode, .int md_p, .int md_n, .int md_order, .int md_monomials, .ref (ad 1), .ref (ad 2), .int md_generators, .ref (ad 3), .ref (ad 4), .int md_found, .int md_upTo, .ref (ad 5), .ref (ad 6), .ref (ad 7), .ref (ad 8), .int md_members, .int md_provedNow])), ((ad 1), .inl (cs 0, 126, .inl md_mono)), ((ad 2), .inl (cs 0, 126, .inl md_degree)), ((ad 3), .inl (cs 0, 1008, .inl md_generator)), ((ad 5), .inl (cs 2, 126, .inl md_has_7)), ((ad 6), .inl (cs 0, 15876, .inl md_row_8)), ((ad 7), .inl (cs 0, 126, .inl md_work_67))] H → va_D A [((ad 0), .inr (8, [.int md_thrownCode, .int md_p, .int md_n, .int md_order, .int md_monomials, .ref (ad 1), .ref (ad 2), .int md_generators, .ref (ad 3), .ref (ad 4), .int md_found, .int md_upTo, .ref (ad 5), .ref (ad 6), .ref (ad 7), .ref (ad 8), .int md_members, .int md_provedNow])), ((ad 1), .inl (cs 0, 126, .inl md_mono)), ((ad 2), .inl (cs 0, 126, .inl md_degree)), ((ad 3), .inl (cs 0, 1008, .inl md_generator)), ((ad 5), .inl (cs 2, 126, .inl md_has_7)), ((ad 6), .inl (cs 0, 15876, .inl md_row_8)), ((ad 7), .inl (cs 0, 126, .inl md_work_67))] → va_S A s.heap H locs → lv_has ls 5 [(0, .ref (ad 0)), (1, .int p0), (2, .int x2_6), (3, .int x3_66)] → W p l e (headSpec w_md_findSpace { frames := 3, cells := 0, slots := 0, locals := 70 }).room s m ([.ref (ad 0), .int p0] : List Value).toArray below meth c H locs 0 0 (MQ below (va_Qv (fun (u : (Nat → Int32) × (Nat → Int32) × (Nat → Int32)) => Q u.1 u.2.1 u.2.2) (at_md_findSpace dC dI cs A ad md_thrownCode md_p md_n md_order md_monomials md_generators md_found md_upTo md_members md_provedNow md_mono md_degree md_generator) A) ([.ref (ad 0), .int p0] : List Value).toArray s 0 0 A) (F0 m 42 ls []) := by
                  intro nn
                  induction nn with
                  | zero => intro x3_66 md_work_67 hlt; exact absurd hlt (Nat.not_lt_zero _)
                  | succ nn ih42 =>
                    intro x3_66 md_work_67 hlt42 hI H locs ls hP hD hS hl
                    have hv := hv x3_66 md_work_67 hI
                    refine lv_iload_n hx hb d_md_findSpace_42 rfl (lv_at hl 3 rfl) ?_
                    refine lv_aload_n hx hb d_md_findSpace_43 rfl (lv_at hl 0 rfl) ?_
                    refine va_get (D := (dC, dI)) (ci := 8) (v := .int md_monomials) (C := R_md) (T := F_md) (N := 18) hx hb hts in_md hown hK hP 0 rfl rfl 4 (by decide) (hts _ kw_622) (fun _ h9 => h9) rfl d_md_findSpace_44 ?_
                    refine lv_icmp_ge (tgt := 73) hx hb d_md_findSpace_47 (by decide) (fun c_70 => ?_) (fun c_70 => ?_)
                    · have hv := hv.1 c_70
                      refine lv_aload_n hx hb d_md_findSpace_73 rfl (lv_at hl 0 rfl) ?_
                      have hPc := hP.sub (ws' := [((ad 0), .inr (8, [.int md_thrownCode, .int md_p, .int md_n, .int md_order, .int md_monomials, .ref (ad 1), .ref (ad 2), .int md_generators, .ref (ad 3), .ref (ad 4), .int md_found, .int md_upTo, .ref (ad 5), .ref (ad 6), .ref (ad 7), .ref (ad 8), .int md_members, .int md_provedNow])), ((ad 5), .inl (cs 2, 126, .inl md_has_7)), ((ad 6), .inl (cs 0, 15876, .inl md_row_8)), ((ad 7), .inl (cs 0, 126, .inl md_work_67))]) [0, 4, 5, 6] rfl
                      have hDc := hD.sub (ws' := [((ad 0), .inr (8, [.int md_thrownCode, .int md_p, .int md_n, .int md_order, .int md_monomials, .ref (ad 1), .ref (ad 2), .int md_generators, .ref (ad 3), .ref (ad 4), .int md_found, .int md_upTo, .ref (ad 5), .ref (ad 6), .ref (ad 7), .ref (ad 8), .int md_members, .int md_provedNow])), ((ad 5), .inl (cs 2, 126, .inl md_has_7)), ((ad 6), .inl (cs 0, 15876, .inl md_row_8)), ((ad 7), .inl (cs 0, 126, .inl md_work_67))]) [0, 4, 5, 6] (by decide) rfl
                      have hFc := va_free (wc := [((ad 0), .inr (8, [.int md_thrownCode, .int md_p, .int md_n, .int md_order, .int md_monomials, .ref (ad 1), .ref (ad 2), .int md_generators, .ref (ad 3), .ref (ad 4), .int md_found, .int md_upTo, .ref (ad 5), .ref (ad 6), .ref (ad 7), .ref (ad 8), .int md_members, .int md_provedNow])), ((ad 5), .inl (cs 2, 126, .inl md_has_7)), ((ad 6), .inl (cs 0, 15876, .inl md_row_8)), ((ad 7), .inl (cs 0, 126, .inl md_work_67))]) hD hS hA [0, 4, 5, 6] rfl
                      refine va_calli (va_runV (As := []) (rest := []) ⟨hx, hb, hml, hown, hts⟩ (c_md_comes l dC dI cs ad  H.size md_thrownCode md_p md_n md_order md_monomials md_generators md_found md_upTo md_members md_provedNow md_has_7 md_row_8 md_work_67 _ hv) (cwV 0 hts (gd_V kw_714 kw_715 kw_23 kw_41 kw_716) rfl rfl rfl (by decide +kernel) ⟨Nat.le_of_ble_eq_true rfl, Nat.le_of_ble_eq_true rfl⟩) ⟨fun a U g mk q => by obtain ⟨q0, q1, qP, qK, qD⟩ := q; exact ⟨q0, q1, qP, qK.call, qD⟩, va_recv hK hPc (ci := 8) (q0 := 0) rfl rfl, fun U hU hW => ⟨rfl, by rw [hU], by rw [hU]; exact hPc, vwK.warm hW ⟨hK, hN⟩, hDc.weaken (fun _ _ _ _ => trivial)⟩⟩ rfl rfl hl.1 rfl (lv_room (Nat.le_of_ble_eq_true rfl)) d_md_findSpace_74 ⟨Nat.zero_le _, Nat.zero_le _⟩) hS (fun q _ h => hFc q h) hFc (fun r_74 u t H1 locs1 ht hvm hw hB hz1 hk1 hS => ?_)
                      obtain ⟨md_has_71, md_row_72, md_work_73⟩ := u
                      obtain ⟨hP1, hD1⟩ := hB
                      rw [ht] at hP1
                      obtain ⟨hP, hD⟩ := va_join (wr := [((ad 1), .inl (cs 0, 126, .inl md_mono)), ((ad 2), .inl (cs 0, 126, .inl md_degree)), ((ad 3), .inl (cs 0, 1008, .inl md_generator))]) (w1 := [((ad 0), .inr (8, [.int md_thrownCode, .int md_p, .int md_n, .int md_order, .int md_monomials, .ref (ad 1), .ref (ad 2), .int md_generators, .ref (ad 3), .ref (ad 4), .int md_found, .int md_upTo, .ref (ad 5), .ref (ad 6), .ref (ad 7), .ref (ad 8), .int md_members, .int md_provedNow])), ((ad 5), .inl (cs 2, 126, .inl md_has_71)), ((ad 6), .inl (cs 0, 15876, .inl md_row_72)), ((ad 7), .inl (cs 0, 126, .inl md_work_73))]) hP hD [0, 4, 5, 6] [1, 2, 3] rfl rfl (by decide) (by decide) hk1 hFc hP1 hD1
                      generalize H1 = H at hP hS ⊢
                      generalize locs1 = locs at hS ⊢
                      have hP : va_P (dC, dI) vwCl [((ad 1), .inl (cs 0, 126, .inl md_mono)), ((ad 2), .inl (cs 0, 126, .inl md_degree)), ((ad 3), .inl (cs 0, 1008, .inl md_generator)), ((ad 0), .inr (8, [.int md_thrownCode, .int md_p, .int md_n, .int md_order, .int md_monomials, .ref (ad 1), .ref (ad 2), .int md_generators, .ref (ad 3), .ref (ad 4), .int md_found, .int md_upTo, .ref (ad 5), .ref (ad 6), .ref (ad 7), .ref (ad 8), .int md_members, .int md_provedNow])), ((ad 5), .inl (cs 2, 126, .inl md_has_71)), ((ad 6), .inl (cs 0, 15876, .inl md_row_72)), ((ad 7), .inl (cs 0, 126, .inl md_work_73))] H := hP
                      have hD : va_D A [((ad 1), .inl (cs 0, 126, .inl md_mono)), ((ad 2), .inl (cs 0, 126, .inl md_degree)), ((ad 3), .inl (cs 0, 1008, .inl md_generator)), ((ad 0), .inr (8, [.int md_thrownCode, .int md_p, .int md_n, .int md_order, .int md_monomials, .ref (ad 1), .ref (ad 2), .int md_generators, .ref (ad 3), .ref (ad 4), .int md_found, .int md_upTo, .ref (ad 5), .ref (ad 6), .ref (ad 7), .ref (ad 8), .int md_members, .int md_provedNow])), ((ad 5), .inl (cs 2, 126, .inl md_has_71)), ((ad 6), .inl (cs 0, 15876, .inl md_row_72)), ((ad 7), .inl (cs 0, 126, .inl md_work_73))] := hD
                      have hv := hw
                      try dsimp only at hv
                      refine lv_pop hx hb d_md_findSpace_77 rfl ?_
                      obtain ⟨x2_75, ex2_75⟩ : ∃ y : Int32, y = x2_6 + 1 := ⟨_, rfl⟩
                      have hv := hv x2_75 ex2_75
                      refine lv_iinc (v := x2_75) (lv' := [(2, .int x2_75), (0, .ref (ad 0)), (1, .int p0), (3, .int x3_66)]) hx hb d_md_findSpace_78 hl (k := 2) rfl (by rw [ex2_75]; rfl) (by decide) rfl (fun ls hl => ?_)
                      refine lv_goto (tgt := 23) hx hb d_md_findSpace_81 (by decide) ?_
                      exact ih23 x2_75 md_has_71 md_row_72 md_work_73 (Nat.lt_of_lt_of_le hv.2 (Nat.le_of_lt_succ hlt23)) hv.1 _ _ _ (hP.sub [3, 0, 1, 2, 4, 5, 6] rfl) (hD.sub [3, 0, 1, 2, 4, 5, 6] (by decide) rfl) hS (lv_sub hl [1, 2, 0] rfl)
                    · have hv := hv.2 c_70
                      refine lv_aload_n hx hb d_md_findSpace_50 rfl (lv_at hl 0 rfl) ?_
                      refine va_get (D := (dC, dI)) (ci := 8) (v := .ref (ad 7)) (C := R_md) (T := F_md) (N := 18) hx hb hts in_md hown hK hP 0 rfl rfl 14 (by decide) (hts _ kw_632) (fun _ h9 => h9) rfl d_md_findSpace_51 ?_
                      refine lv_iload_n hx hb d_md_findSpace_54 rfl (lv_at hl 3 rfl) ?_
                      refine lv_aload_n hx hb d_md_findSpace_55 rfl (lv_at hl 0 rfl) ?_
                      refine va_get (D := (dC, dI)) (ci := 8) (v := .ref (ad 3)) (C := R_md) (T := F_md) (N := 18) hx hb hts in_md hown hK hP 0 rfl rfl 8 (by decide) (hts _ kw_626) (fun _ h9 => h9) rfl d_md_findSpace_56 ?_
                      refine lv_bipush (v := 126) hx hb d_md_findSpace_59 (by decide) ?_
                      refine lv_iload_n hx hb d_md_findSpace_61 rfl (lv_at hl 2 rfl) ?_
                      refine lv_imul hx hb d_md_findSpace_62 ?_
                      refine lv_iload_n hx hb d_md_findSpace_63 rfl (lv_at hl 3 rfl) ?_
                      refine lv_iadd hx hb d_md_findSpace_64 ?_
                      obtain ⟨hi_76, hv⟩ := hv
                      refine va_iald hx hb hK hP 3 0 rfl rfl hi_76 d_md_findSpace_65 ?_
                      obtain ⟨hi_77, hv⟩ := hv
                      refine va_iast hx hb hK hP hD hS 6 0 rfl rfl hi_77 d_md_findSpace_66 (fun H locs hP hD hS => ?_)
                      have hP : va_P (dC, dI) vwCl [((ad 0), .inr (8, [.int md_thrownCode, .int md_p, .int md_n, .int md_order, .int md_monomials, .ref (ad 1), .ref (ad 2), .int md_generators, .ref (ad 3), .ref (ad 4), .int md_found, .int md_upTo, .ref (ad 5), .ref (ad 6), .ref (ad 7), .ref (ad 8), .int md_members, .int md_provedNow])), ((ad 1), .inl (cs 0, 126, .inl md_mono)), ((ad 2), .inl (cs 0, 126, .inl md_degree)), ((ad 3), .inl (cs 0, 1008, .inl md_generator)), ((ad 5), .inl (cs 2, 126, .inl md_has_7)), ((ad 6), .inl (cs 0, 15876, .inl md_row_8)), ((ad 7), .inl (cs 0, 126, .inl (upd md_work_67 x3_66.toNatClampNeg (md_generator (((126 * x2_6) + x3_66)).toNatClampNeg))))] H := hP
                      have hD : va_D A [((ad 0), .inr (8, [.int md_thrownCode, .int md_p, .int md_n, .int md_order, .int md_monomials, .ref (ad 1), .ref (ad 2), .int md_generators, .ref (ad 3), .ref (ad 4), .int md_found, .int md_upTo, .ref (ad 5), .ref (ad 6), .ref (ad 7), .ref (ad 8), .int md_members, .int md_provedNow])), ((ad 1), .inl (cs 0, 126, .inl md_mono)), ((ad 2), .inl (cs 0, 126, .inl md_degree)), ((ad 3), .inl (cs 0, 1008, .inl md_generator)), ((ad 5), .inl (cs 2, 126, .inl md_has_7)), ((ad 6), .inl (cs 0, 15876, .inl md_row_8)), ((ad 7), .inl (cs 0, 126, .inl (upd md_work_67 x3_66.toNatClampNeg (md_generator (((126 * x2_6) + x3_66)).toNatClampNeg))))] := hD
                      generalize emd_work_78 : upd md_work_67 x3_66.toNatClampNeg (md_generator (((126 * x2_6) + x3_66)).toNatClampNeg) = md_work_78 at hP hD
                      have hv := hv md_work_78 emd_work_78.symm
                      obtain ⟨x3_79, ex3_79⟩ : ∃ y : Int32, y = x3_66 + 1 := ⟨_, rfl⟩
                      have hv := hv x3_79 ex3_79
                      refine lv_iinc (v := x3_79) (lv' := [(3, .int x3_79), (0, .ref (ad 0)), (1, .int p0), (2, .int x2_6)]) hx hb d_md_findSpace_67 hl (k := 3) rfl (by rw [ex3_79]; rfl) (by decide) rfl (fun ls hl => ?_)
                      refine lv_goto (tgt := 42) hx hb d_md_findSpace_70 (by decide) ?_
                      exact ih42 x3_79 md_work_78 (Nat.lt_of_lt_of_le hv.2 (Nat.le_of_lt_succ hlt42)) hv.1 _ _ _ (hP.sub [0, 1, 2, 3, 4, 5, 6] rfl) (hD.sub [0, 1, 2, 3, 4, 5, 6] (by decide) rfl) hS (lv_sub hl [1, 2, 3, 0] rfl)
                exact loop42 _ 0 md_work_9 (Nat.lt_succ_self _) hi0 _ _ _ hP hD hS hl
        exact loop23 _ 0 md_has_2 md_row md_work (Nat.lt_succ_self _) hi0 _ _ _ hP hD hS hl
      · have hv := hv.2 c_5
        refine lv_aload_n hx hb d_md_findSpace_8 rfl (lv_at hl 0 rfl) ?_
        refine va_get (D := (dC, dI)) (ci := 8) (v := .ref (ad 5)) (C := R_md) (T := F_md) (N := 18) hx hb hts in_md hown hK hP 0 rfl rfl 12 (by decide) (hts _ kw_630) (fun _ h9 => h9) rfl d_md_findSpace_9 ?_
        refine lv_iload_n hx hb d_md_findSpace_12 rfl (lv_at hl 2 rfl) ?_
        refine lv_iconst (v := 0) hx hb d_md_findSpace_13 (by decide) ?_
        obtain ⟨hi_80, hv⟩ := hv
        refine va_zast hx hb hK hP hD hS 4 2 rfl rfl hi_80 d_md_findSpace_14 (fun H locs hP hD hS => ?_)
        have hP : va_P (dC, dI) vwCl [((ad 0), .inr (8, [.int md_thrownCode, .int md_p, .int md_n, .int md_order, .int md_monomials, .ref (ad 1), .ref (ad 2), .int md_generators, .ref (ad 3), .ref (ad 4), .int md_found, .int md_upTo, .ref (ad 5), .ref (ad 6), .ref (ad 7), .ref (ad 8), .int md_members, .int md_provedNow])), ((ad 1), .inl (cs 0, 126, .inl md_mono)), ((ad 2), .inl (cs 0, 126, .inl md_degree)), ((ad 3), .inl (cs 0, 1008, .inl md_generator)), ((ad 5), .inl (cs 2, 126, .inl (upd md_has_2 x2_1.toNatClampNeg (vp_nar .boolean 0)))), ((ad 6), .inl (cs 0, 15876, .inl md_row)), ((ad 7), .inl (cs 0, 126, .inl md_work))] H := hP
        have hD : va_D A [((ad 0), .inr (8, [.int md_thrownCode, .int md_p, .int md_n, .int md_order, .int md_monomials, .ref (ad 1), .ref (ad 2), .int md_generators, .ref (ad 3), .ref (ad 4), .int md_found, .int md_upTo, .ref (ad 5), .ref (ad 6), .ref (ad 7), .ref (ad 8), .int md_members, .int md_provedNow])), ((ad 1), .inl (cs 0, 126, .inl md_mono)), ((ad 2), .inl (cs 0, 126, .inl md_degree)), ((ad 3), .inl (cs 0, 1008, .inl md_generator)), ((ad 5), .inl (cs 2, 126, .inl (upd md_has_2 x2_1.toNatClampNeg (vp_nar .boolean 0)))), ((ad 6), .inl (cs 0, 15876, .inl md_row)), ((ad 7), .inl (cs 0, 126, .inl md_work))] := hD
        generalize emd_has_81 : upd md_has_2 x2_1.toNatClampNeg (vp_nar .boolean 0) = md_has_81 at hP hD
        have hv := hv md_has_81 emd_has_81.symm
        obtain ⟨x2_82, ex2_82⟩ : ∃ y : Int32, y = x2_1 + 1 := ⟨_, rfl⟩
        have hv := hv x2_82 ex2_82
        refine lv_iinc (v := x2_82) (lv' := [(2, .int x2_82), (0, .ref (ad 0)), (1, .int p0)]) hx hb d_md_findSpace_15 hl (k := 2) rfl (by rw [ex2_82]; rfl) (by decide) rfl (fun ls hl => ?_)
        refine lv_goto (tgt := 2) hx hb d_md_findSpace_18 (by decide) ?_
        exact ih2 x2_82 md_has_81 (Nat.lt_of_lt_of_le hv.2 (Nat.le_of_lt_succ hlt2)) hv.1 _ _ _ (hP.sub [0, 1, 2, 3, 4, 5, 6] rfl) (hD.sub [0, 1, 2, 3, 4, 5, 6] (by decide) rfl) hS (lv_sub hl [1, 2, 0] rfl)
  exact loop2 _ 0 md_has (Nat.lt_succ_self _) hi0 _ _ _ hP hD hS hl
abbrev b_md_complete : ByteArray := prog_10_method_18_code
def y_md_complete : MethodName := ⟨"SpaceBasisModel", "complete", "()Z"⟩
def w_md_complete : List Cond := Cond.code y_md_complete b_md_complete 8 (some .boolean) :: vwWS
theorem d_md_complete_0 : decode b_md_complete 0 = .ok (.iconst 0, 1) := by decide +kernel
theorem d_md_complete_1 : decode b_md_complete 1 = .ok (.istore_n 1, 1) := by decide +kernel
theorem d_md_complete_2 : decode b_md_complete 2 = .ok (.iload_n 1, 1) := by decide +kernel
theorem d_md_complete_3 : decode b_md_complete 3 = .ok (.aload_n 0, 1) := by decide +kernel
theorem d_md_complete_4 : decode b_md_complete 4 = .ok (.getfield 32, 3) := by decide +kernel
theorem d_md_complete_7 : decode b_md_complete 7 = .ok (.if_icmp .ge 23, 3) := by decide +kernel
theorem d_md_complete_10 : decode b_md_complete 10 = .ok (.aload_n 0, 1) := by decide +kernel
theorem d_md_complete_11 : decode b_md_complete 11 = .ok (.iload_n 1, 1) := by decide +kernel
theorem d_md_complete_12 : decode b_md_complete 12 = .ok (.invokevirtual 103, 3) := by decide +kernel
theorem d_md_complete_15 : decode b_md_complete 15 = .ok (.aload_n 0, 1) := by decide +kernel
theorem d_md_complete_16 : decode b_md_complete 16 = .ok (.getfield 45, 3) := by decide +kernel
theorem d_md_complete_19 : decode b_md_complete 19 = .ok (.if_icmp .le 5, 3) := by decide +kernel
theorem d_md_complete_22 : decode b_md_complete 22 = .ok (.iconst 0, 1) := by decide +kernel
theorem d_md_complete_23 : decode b_md_complete 23 = .ok (.ireturn, 1) := by decide +kernel
theorem d_md_complete_24 : decode b_md_complete 24 = .ok (.iinc 1 1, 3) := by decide +kernel
theorem d_md_complete_27 : decode b_md_complete 27 = .ok (.goto (-25), 3) := by decide +kernel
theorem d_md_complete_30 : decode b_md_complete 30 = .ok (.iconst 0, 1) := by decide +kernel
theorem d_md_complete_31 : decode b_md_complete 31 = .ok (.istore_n 1, 1) := by decide +kernel
theorem d_md_complete_32 : decode b_md_complete 32 = .ok (.iload_n 1, 1) := by decide +kernel
theorem d_md_complete_33 : decode b_md_complete 33 = .ok (.aload_n 0, 1) := by decide +kernel
theorem d_md_complete_34 : decode b_md_complete 34 = .ok (.getfield 61, 3) := by decide +kernel
theorem d_md_complete_37 : decode b_md_complete 37 = .ok (.if_icmp .ge 121, 3) := by decide +kernel
theorem d_md_complete_40 : decode b_md_complete 40 = .ok (.iconst 0, 1) := by decide +kernel
theorem d_md_complete_41 : decode b_md_complete 41 = .ok (.istore_n 2, 1) := by decide +kernel
theorem d_md_complete_42 : decode b_md_complete 42 = .ok (.iload_n 2, 1) := by decide +kernel
theorem d_md_complete_43 : decode b_md_complete 43 = .ok (.iload_n 1, 1) := by decide +kernel
theorem d_md_complete_44 : decode b_md_complete 44 = .ok (.if_icmp .ge 108, 3) := by decide +kernel
theorem d_md_complete_47 : decode b_md_complete 47 = .ok (.iconst 0, 1) := by decide +kernel
theorem d_md_complete_48 : decode b_md_complete 48 = .ok (.istore_n 3, 1) := by decide +kernel
theorem d_md_complete_49 : decode b_md_complete 49 = .ok (.iconst 0, 1) := by decide +kernel
theorem d_md_complete_50 : decode b_md_complete 50 = .ok (.istore 4, 2) := by decide +kernel
theorem d_md_complete_52 : decode b_md_complete 52 = .ok (.iconst 0, 1) := by decide +kernel
theorem d_md_complete_53 : decode b_md_complete 53 = .ok (.istore 5, 2) := by decide +kernel
theorem d_md_complete_55 : decode b_md_complete 55 = .ok (.iload 5, 2) := by decide +kernel
theorem d_md_complete_57 : decode b_md_complete 57 = .ok (.iconst 4, 1) := by decide +kernel
theorem d_md_complete_58 : decode b_md_complete 58 = .ok (.if_icmp .ge 72, 3) := by decide +kernel
theorem d_md_complete_61 : decode b_md_complete 61 = .ok (.aload_n 0, 1) := by decide +kernel
theorem d_md_complete_62 : decode b_md_complete 62 = .ok (.getfield 25, 3) := by decide +kernel
theorem d_md_complete_65 : decode b_md_complete 65 = .ok (.aload_n 0, 1) := by decide +kernel
theorem d_md_complete_66 : decode b_md_complete 66 = .ok (.getfield 58, 3) := by decide +kernel
theorem d_md_complete_69 : decode b_md_complete 69 = .ok (.iload_n 1, 1) := by decide +kernel
theorem d_md_complete_70 : decode b_md_complete 70 = .ok (.iaload, 1) := by decide +kernel
theorem d_md_complete_71 : decode b_md_complete 71 = .ok (.iaload, 1) := by decide +kernel
theorem d_md_complete_72 : decode b_md_complete 72 = .ok (.iload 5, 2) := by decide +kernel
theorem d_md_complete_74 : decode b_md_complete 74 = .ok (.invokestatic 71, 3) := by decide +kernel
theorem d_md_complete_77 : decode b_md_complete 77 = .ok (.istore 6, 2) := by decide +kernel
theorem d_md_complete_79 : decode b_md_complete 79 = .ok (.aload_n 0, 1) := by decide +kernel
theorem d_md_complete_80 : decode b_md_complete 80 = .ok (.getfield 25, 3) := by decide +kernel
theorem d_md_complete_83 : decode b_md_complete 83 = .ok (.aload_n 0, 1) := by decide +kernel
theorem d_md_complete_84 : decode b_md_complete 84 = .ok (.getfield 58, 3) := by decide +kernel
theorem d_md_complete_87 : decode b_md_complete 87 = .ok (.iload_n 2, 1) := by decide +kernel
theorem d_md_complete_88 : decode b_md_complete 88 = .ok (.iaload, 1) := by decide +kernel
theorem d_md_complete_89 : decode b_md_complete 89 = .ok (.iaload, 1) := by decide +kernel
theorem d_md_complete_90 : decode b_md_complete 90 = .ok (.iload 5, 2) := by decide +kernel
theorem d_md_complete_92 : decode b_md_complete 92 = .ok (.invokestatic 71, 3) := by decide +kernel
theorem d_md_complete_95 : decode b_md_complete 95 = .ok (.istore 7, 2) := by decide +kernel
theorem d_md_complete_97 : decode b_md_complete 97 = .ok (.iload_n 3, 1) := by decide +kernel
theorem d_md_complete_98 : decode b_md_complete 98 = .ok (.iload 6, 2) := by decide +kernel
theorem d_md_complete_100 : decode b_md_complete 100 = .ok (.iload 7, 2) := by decide +kernel
theorem d_md_complete_102 : decode b_md_complete 102 = .ok (.if_icmp .le 8, 3) := by decide +kernel
theorem d_md_complete_105 : decode b_md_complete 105 = .ok (.iload 6, 2) := by decide +kernel
theorem d_md_complete_107 : decode b_md_complete 107 = .ok (.goto 5, 3) := by decide +kernel
theorem d_md_complete_110 : decode b_md_complete 110 = .ok (.iload 7, 2) := by decide +kernel
theorem d_md_complete_112 : decode b_md_complete 112 = .ok (.iadd, 1) := by decide +kernel
theorem d_md_complete_113 : decode b_md_complete 113 = .ok (.istore_n 3, 1) := by decide +kernel
theorem d_md_complete_114 : decode b_md_complete 114 = .ok (.iload 4, 2) := by decide +kernel
theorem d_md_complete_116 : decode b_md_complete 116 = .ok (.iload 6, 2) := by decide +kernel
theorem d_md_complete_118 : decode b_md_complete 118 = .ok (.iload 7, 2) := by decide +kernel
theorem d_md_complete_120 : decode b_md_complete 120 = .ok (.iadd, 1) := by decide +kernel
theorem d_md_complete_121 : decode b_md_complete 121 = .ok (.iadd, 1) := by decide +kernel
theorem d_md_complete_122 : decode b_md_complete 122 = .ok (.istore 4, 2) := by decide +kernel
theorem d_md_complete_124 : decode b_md_complete 124 = .ok (.iinc 5 1, 3) := by decide +kernel
theorem d_md_complete_127 : decode b_md_complete 127 = .ok (.goto (-72), 3) := by decide +kernel
theorem d_md_complete_130 : decode b_md_complete 130 = .ok (.iload_n 3, 1) := by decide +kernel
theorem d_md_complete_131 : decode b_md_complete 131 = .ok (.aload_n 0, 1) := by decide +kernel
theorem d_md_complete_132 : decode b_md_complete 132 = .ok (.getfield 45, 3) := by decide +kernel
theorem d_md_complete_135 : decode b_md_complete 135 = .ok (.if_icmp .le 11, 3) := by decide +kernel
theorem d_md_complete_138 : decode b_md_complete 138 = .ok (.iload_n 3, 1) := by decide +kernel
theorem d_md_complete_139 : decode b_md_complete 139 = .ok (.iload 4, 2) := by decide +kernel
theorem d_md_complete_141 : decode b_md_complete 141 = .ok (.if_icmp .eq 5, 3) := by decide +kernel
theorem d_md_complete_144 : decode b_md_complete 144 = .ok (.iconst 0, 1) := by decide +kernel
theorem d_md_complete_145 : decode b_md_complete 145 = .ok (.ireturn, 1) := by decide +kernel
theorem d_md_complete_146 : decode b_md_complete 146 = .ok (.iinc 2 1, 3) := by decide +kernel
theorem d_md_complete_149 : decode b_md_complete 149 = .ok (.goto (-107), 3) := by decide +kernel
theorem d_md_complete_152 : decode b_md_complete 152 = .ok (.iinc 1 1, 3) := by decide +kernel
theorem d_md_complete_155 : decode b_md_complete 155 = .ok (.goto (-123), 3) := by decide +kernel
theorem d_md_complete_158 : decode b_md_complete 158 = .ok (.iconst 1, 1) := by decide +kernel
theorem d_md_complete_159 : decode b_md_complete 159 = .ok (.ireturn, 1) := by decide +kernel
/-- SpaceBasisModel.complete()Z -/
def vc_md_complete (md_thrownCode : Int32) (md_p : Int32) (md_n : Int32) (md_order : Int32) (md_monomials : Int32) (md_generators : Int32) (md_found : Int32) (md_upTo : Int32) (md_members : Int32) (md_provedNow : Int32) (md_mono : Nat → Int32) (md_degree : Nat → Int32) (md_generator : Nat → Int32) (md_basis : Nat → Int32) (Q : Int32 → Prop) : Prop :=
  ∃ (I2_2 : Int32 → Prop) (mu2_3 : Int32 → Nat), I2_2 0 ∧ ∀ (x1_1 : Int32), I2_2 x1_1 → ((((md_generators ≤ x1_1) → (∃ (I32_6 : Int32 → Prop) (mu32_7 : Int32 → Nat), I32_6 0 ∧ ∀ (x1_5 : Int32), I32_6 x1_5 → ((((md_members ≤ x1_5) → (Q 1)) ∧ ((¬ (md_members ≤ x1_5)) → (∃ (I42_10 : Int32 → Prop) (mu42_11 : Int32 → Nat), I42_10 0 ∧ ∀ (x2_9 : Int32), I42_10 x2_9 → ((((x1_5 ≤ x2_9) → (∀ x1_13 : Int32, x1_13 = x1_5 + 1 → (I32_6 x1_13 ∧ mu32_7 x1_13 < mu32_7 x1_5))) ∧ ((¬ (x1_5 ≤ x2_9)) → (∃ (I55_17 : Int32 → Int32 → Int32 → Prop) (mu55_18 : Int32 → Int32 → Int32 → Nat), I55_17 0 0 0 ∧ ∀ (x3_14 : Int32) (x4_15 : Int32) (x5_16 : Int32), I55_17 x3_14 x4_15 x5_16 → ((((4 ≤ x5_16) → ((((x3_14 ≤ md_upTo) → (∀ x2_21 : Int32, x2_21 = x2_9 + 1 → (I42_10 x2_21 ∧ mu42_11 x2_21 < mu42_11 x2_9))) ∧ ((¬ (x3_14 ≤ md_upTo)) → ((((x3_14 = x4_15) → (∀ x2_23 : Int32, x2_23 = x2_9 + 1 → (I42_10 x2_23 ∧ mu42_11 x2_23 < mu42_11 x2_9))) ∧ ((¬ (x3_14 = x4_15)) → (Q 0)))))))) ∧ ((¬ (4 ≤ x5_16)) → (vp_in x1_5 126 ∧ vp_in (md_basis x1_5.toNatClampNeg) 126 ∧ vc_md_exponent (md_mono ((md_basis x1_5.toNatClampNeg)).toNatClampNeg) x5_16 (fun (r_26 : Int32) => vp_in x2_9 126 ∧ vp_in (md_basis x2_9.toNatClampNeg) 126 ∧ vc_md_exponent (md_mono ((md_basis x2_9.toNatClampNeg)).toNatClampNeg) x5_16 (fun (r_29 : Int32) => (((r_26 ≤ r_29) → (∀ x3_31 : Int32, x3_31 = (x3_14 + r_29) → ∀ x4_32 : Int32, x4_32 = (x4_15 + (r_26 + r_29)) → ∀ x5_33 : Int32, x5_33 = x5_16 + 1 → (I55_17 x3_31 x4_32 x5_33 ∧ mu55_18 x3_31 x4_32 x5_33 < mu55_18 x3_14 x4_15 x5_16))) ∧ ((¬ (r_26 ≤ r_29)) → (∀ x3_34 : Int32, x3_34 = (x3_14 + r_26) → ∀ x4_35 : Int32, x4_35 = (x4_15 + (r_26 + r_29)) → ∀ x5_36 : Int32, x5_36 = x5_16 + 1 → (I55_17 x3_34 x4_35 x5_36 ∧ mu55_18 x3_34 x4_35 x5_36 < mu55_18 x3_14 x4_15 x5_16)))))))))))))))))))) ∧ ((¬ (md_generators ≤ x1_1)) → (vc_md_degreeOfGenerator md_thrownCode md_p md_n md_order md_monomials md_generators md_found md_upTo md_members md_provedNow md_degree md_generator x1_1 (fun (r_37 : Int32) => (((r_37 ≤ md_upTo) → (∀ x1_39 : Int32, x1_39 = x1_1 + 1 → (I2_2 x1_39 ∧ mu2_3 x1_39 < mu2_3 x1_1))) ∧ ((¬ (r_37 ≤ md_upTo)) → (Q 0))))))))
abbrev at_md_complete (dC : Nat → ClassId) (dI : Nat → Nat → Nat) (cs : Nat → ClassId) (A : Nat → Prop) (ad : Nat → Nat) (md_thrownCode : Int32) (md_p : Int32) (md_n : Int32) (md_order : Int32) (md_monomials : Int32) (md_generators : Int32) (md_found : Int32) (md_upTo : Int32) (md_members : Int32) (md_provedNow : Int32) (md_mono : Nat → Int32) (md_degree : Nat → Int32) (md_generator : Nat → Int32) (md_basis : Nat → Int32) (u : Unit) (t : State) : Prop := match u with
  | _ => va_P (dC, dI) vwCl [((ad 0), .inr (8, [.int md_thrownCode, .int md_p, .int md_n, .int md_order, .int md_monomials, .ref (ad 1), .ref (ad 2), .int md_generators, .ref (ad 3), .ref (ad 4), .int md_found, .int md_upTo, .ref (ad 5), .ref (ad 6), .ref (ad 7), .ref (ad 8), .int md_members, .int md_provedNow])), ((ad 1), .inl (cs 0, 126, .inl md_mono)), ((ad 2), .inl (cs 0, 126, .inl md_degree)), ((ad 3), .inl (cs 0, 1008, .inl md_generator)), ((ad 8), .inl (cs 0, 126, .inl md_basis))] t.heap ∧ va_D A [((ad 0), .inr (8, [.int md_thrownCode, .int md_p, .int md_n, .int md_order, .int md_monomials, .ref (ad 1), .ref (ad 2), .int md_generators, .ref (ad 3), .ref (ad 4), .int md_found, .int md_upTo, .ref (ad 5), .ref (ad 6), .ref (ad 7), .ref (ad 8), .int md_members, .int md_provedNow])), ((ad 1), .inl (cs 0, 126, .inl md_mono)), ((ad 2), .inl (cs 0, 126, .inl md_degree)), ((ad 3), .inl (cs 0, 1008, .inl md_generator)), ((ad 8), .inl (cs 0, 126, .inl md_basis))]
set_option maxHeartbeats 4000000 in
set_option maxRecDepth 100000 in
theorem c_md_complete (l : Launch) (dC : Nat → ClassId) (dI : Nat → Nat → Nat) (cs : Nat → ClassId) (ad : Nat → Nat)  (sz : Nat) (md_thrownCode : Int32) (md_p : Int32) (md_n : Int32) (md_order : Int32) (md_monomials : Int32) (md_generators : Int32) (md_found : Int32) (md_upTo : Int32) (md_members : Int32) (md_provedNow : Int32) (md_mono : Nat → Int32) (md_degree : Nat → Int32) (md_generator : Nat → Int32) (md_basis : Nat → Int32) (Q : Int32 → Prop) (hv : vc_md_complete md_thrownCode md_p md_n md_order md_monomials md_generators md_found md_upTo md_members md_provedNow md_mono md_degree md_generator md_basis Q) : Met l y_md_complete w_md_complete ({ frames := 1, cells := 0, slots := 0, locals := 23 }) (va_Pc [.ref (ad 0)] (fun U => U.heap.size = sz ∧ va_P (dC, dI) vwCl [((ad 0), .inr (8, [.int md_thrownCode, .int md_p, .int md_n, .int md_order, .int md_monomials, .ref (ad 1), .ref (ad 2), .int md_generators, .ref (ad 3), .ref (ad 4), .int md_found, .int md_upTo, .ref (ad 5), .ref (ad 6), .ref (ad 7), .ref (ad 8), .int md_members, .int md_provedNow])), ((ad 1), .inl (cs 0, 126, .inl md_mono)), ((ad 2), .inl (cs 0, 126, .inl md_degree)), ((ad 3), .inl (cs 0, 1008, .inl md_generator)), ((ad 8), .inl (cs 0, 126, .inl md_basis))] U.heap ∧ vwK dC dI cs U ∧ va_D (fun _ => True) [((ad 0), .inr (8, [.int md_thrownCode, .int md_p, .int md_n, .int md_order, .int md_monomials, .ref (ad 1), .ref (ad 2), .int md_generators, .ref (ad 3), .ref (ad 4), .int md_found, .int md_upTo, .ref (ad 5), .ref (ad 6), .ref (ad 7), .ref (ad 8), .int md_members, .int md_provedNow])), ((ad 1), .inl (cs 0, 126, .inl md_mono)), ((ad 2), .inl (cs 0, 126, .inl md_degree)), ((ad 3), .inl (cs 0, 1008, .inl md_generator)), ((ad 8), .inl (cs 0, 126, .inl md_basis))])) (va_Qi (fun (r : Int32) (u : Unit) => Q r) (at_md_complete dC dI cs (va_A [((ad 0), .inr (8, [.int md_thrownCode, .int md_p, .int md_n, .int md_order, .int md_monomials, .ref (ad 1), .ref (ad 2), .int md_generators, .ref (ad 3), .ref (ad 4), .int md_found, .int md_upTo, .ref (ad 5), .ref (ad 6), .ref (ad 7), .ref (ad 8), .int md_members, .int md_provedNow])), ((ad 1), .inl (cs 0, 126, .inl md_mono)), ((ad 2), .inl (cs 0, 126, .inl md_degree)), ((ad 3), .inl (cs 0, 1008, .inl md_generator)), ((ad 8), .inl (cs 0, 126, .inl md_basis))] sz) ad md_thrownCode md_p md_n md_order md_monomials md_generators md_found md_upTo md_members md_provedNow md_mono md_degree md_generator md_basis) (va_A [((ad 0), .inr (8, [.int md_thrownCode, .int md_p, .int md_n, .int md_order, .int md_monomials, .ref (ad 1), .ref (ad 2), .int md_generators, .ref (ad 3), .ref (ad 4), .int md_found, .int md_upTo, .ref (ad 5), .ref (ad 6), .ref (ad 7), .ref (ad 8), .int md_members, .int md_provedNow])), ((ad 1), .inl (cs 0, 126, .inl md_mono)), ((ad 2), .inl (cs 0, 126, .inl md_degree)), ((ad 3), .inl (cs 0, 1008, .inl md_generator)), ((ad 8), .inl (cs 0, 126, .inl md_basis))] sz)) 0 0 (va_A [((ad 0), .inr (8, [.int md_thrownCode, .int md_p, .int md_n, .int md_order, .int md_monomials, .ref (ad 1), .ref (ad 2), .int md_generators, .ref (ad 3), .ref (ad 4), .int md_found, .int md_upTo, .ref (ad 5), .ref (ad 6), .ref (ad 7), .ref (ad 8), .int md_members, .int md_provedNow])), ((ad 1), .inl (cs 0, 126, .inl md_mono)), ((ad 2), .inl (cs 0, 126, .inl md_degree)), ((ad 3), .inl (cs 0, 1008, .inl md_generator)), ((ad 8), .inl (cs 0, 126, .inl md_basis))] sz) := by
  unfold vc_md_complete at hv
  refine Met.ofW (cc := b_md_complete) (maxL := 8) (ret := (some .boolean)) (by decide) rfl ?_
  intro p e s m args below meth c s₁ B hml hpc
  obtain ⟨rfl, hsz, hP, ⟨hK, hN⟩, hD0⟩ := hpc
  have hx := B.exec
  have hb := B.bytes
  have hr := B.returns
  have hts : ∀ w ∈ vwWS, w.before _ s = true := fun w h => atoms_spec (ws := w_md_complete) B.pre w (List.mem_cons_of_mem _ h)
  have hown : s.vm.findClass "SpaceBasisModel" = some m.cls := findClass_of_methodNamed B.named
  have hlocks := B.notSynchronized
  subst hsz
  have hD := hD0.self (sz := s.heap.size)
  generalize hAe : va_A [((ad 0), .inr (8, [.int md_thrownCode, .int md_p, .int md_n, .int md_order, .int md_monomials, .ref (ad 1), .ref (ad 2), .int md_generators, .ref (ad 3), .ref (ad 4), .int md_found, .int md_upTo, .ref (ad 5), .ref (ad 6), .ref (ad 7), .ref (ad 8), .int md_members, .int md_provedNow])), ((ad 1), .inl (cs 0, 126, .inl md_mono)), ((ad 2), .inl (cs 0, 126, .inl md_degree)), ((ad 3), .inl (cs 0, 1008, .inl md_generator)), ((ad 8), .inl (cs 0, 126, .inl md_basis))] s.heap.size = A at hD ⊢
  have hA : ∀ q : Nat, s.heap.size ≤ q → A q := fun q h => by rw [← hAe]; exact Or.inr h
  have hS : va_S A s.heap s.heap [] := va_S.rf
  have hl := lv_entry ([.ref (ad 0)]) (n := 8) (Nat.le_of_ble_eq_true rfl)
  rw [lg_entry_eq]
  generalize (lg_sl ([.ref (ad 0)]) ++ List.replicate (8 - (lg_sl ([.ref (ad 0)])).length) Slot.unset).toArray = ls at hl ⊢
  have hl : lv_has ls 8 [(0, .ref (ad 0))] := hl
  refine lv_iconst (v := 0) hx hb d_md_complete_0 (by decide) ?_
  refine lv_istore_n (lv' := [(1, .int 0), (0, .ref (ad 0))]) hx hb d_md_complete_1 rfl hl (by decide) rfl (fun ls hl => ?_)
  obtain ⟨I2_2, mu2_3, hi0, hv⟩ := hv
  have hP := hP.sub (ws' := [((ad 0), .inr (8, [.int md_thrownCode, .int md_p, .int md_n, .int md_order, .int md_monomials, .ref (ad 1), .ref (ad 2), .int md_generators, .ref (ad 3), .ref (ad 4), .int md_found, .int md_upTo, .ref (ad 5), .ref (ad 6), .ref (ad 7), .ref (ad 8), .int md_members, .int md_provedNow])), ((ad 1), .inl (cs 0, 126, .inl md_mono)), ((ad 2), .inl (cs 0, 126, .inl md_degree)), ((ad 3), .inl (cs 0, 1008, .inl md_generator)), ((ad 8), .inl (cs 0, 126, .inl md_basis))]) [0, 1, 2, 3, 4] rfl
  have hD := hD.sub (ws' := [((ad 0), .inr (8, [.int md_thrownCode, .int md_p, .int md_n, .int md_order, .int md_monomials, .ref (ad 1), .ref (ad 2), .int md_generators, .ref (ad 3), .ref (ad 4), .int md_found, .int md_upTo, .ref (ad 5), .ref (ad 6), .ref (ad 7), .ref (ad 8), .int md_members, .int md_provedNow])), ((ad 1), .inl (cs 0, 126, .inl md_mono)), ((ad 2), .inl (cs 0, 126, .inl md_degree)), ((ad 3), .inl (cs 0, 1008, .inl md_generator)), ((ad 8), .inl (cs 0, 126, .inl md_basis))]) [0, 1, 2, 3, 4] (by decide) rfl
  have hl := lv_sub (l' := [(0, .ref (ad 0)), (1, .int 0)]) hl [1, 0] rfl
  have loop2 : ∀ (nn : Nat) (x1_1 : Int32), mu2_3 x1_1 < nn → I2_2 x1_1 → ∀ (H : Heap) (locs : List Loc) (ls : Array Slot), va_P (dC, dI) vwCl [((ad 0), .inr (8, [.int md_thrownCode, .int md_p, .int md_n, .int md_order, .int md_monomials, .ref (ad 1), .ref (ad 2), .int md_generators, .ref (ad 3), .ref (ad 4), .int md_found, .int md_upTo, .ref (ad 5), .ref (ad 6), .ref (ad 7), .ref (ad 8), .int md_members, .int md_provedNow])), ((ad 1), .inl (cs 0, 126, .inl md_mono)), ((ad 2), .inl (cs 0, 126, .inl md_degree)), ((ad 3), .inl (cs 0, 1008, .inl md_generator)), ((ad 8), .inl (cs 0, 126, .inl md_basis))] H → va_D A [((ad 0), .inr (8, [.int md_thrownCode, .int md_p, .int md_n, .int md_order, .int md_monomials, .ref (ad 1), .ref (ad 2), .int md_generators, .ref (ad 3), .ref (ad 4), .int md_found, .int md_upTo, .ref (ad 5), .ref (ad 6), .ref (ad 7), .ref (ad 8), .int md_members, .int md_provedNow])), ((ad 1), .inl (cs 0, 126, .inl md_mono)), ((ad 2), .inl (cs 0, 126, .inl md_degree)), ((ad 3), .inl (cs 0, 1008, .inl md_generator)), ((ad 8), .inl (cs 0, 126, .inl md_basis))] → va_S A s.heap H locs → lv_has ls 8 [(0, .ref (ad 0)), (1, .int x1_1)] → W p l e (headSpec w_md_complete { frames := 1, cells := 0, slots := 0, locals := 23 }).room s m ([.ref (ad 0)] : List Value).toArray below meth c H locs 0 0 (MQ below (va_Qi (fun (r : Int32) (u : Unit) => Q r) (at_md_complete dC dI cs A ad md_thrownCode md_p md_n md_order md_monomials md_generators md_found md_upTo md_members md_provedNow md_mono md_degree md_generator md_basis) A) ([.ref (ad 0)] : List Value).toArray s 0 0 A) (F0 m 2 ls []) := by
    intro nn
    induction nn with
    | zero => intro x1_1 hlt; exact absurd hlt (Nat.not_lt_zero _)
    | succ nn ih2 =>
      intro x1_1 hlt2 hI H locs ls hP hD hS hl
      have hv := hv x1_1 hI
      refine lv_iload_n hx hb d_md_complete_2 rfl (lv_at hl 1 rfl) ?_
      refine lv_aload_n hx hb d_md_complete_3 rfl (lv_at hl 0 rfl) ?_
      refine va_get (D := (dC, dI)) (ci := 8) (v := .int md_generators) (C := R_md) (T := F_md) (N := 18) hx hb hts in_md hown hK hP 0 rfl rfl 7 (by decide) (hts _ kw_625) (fun _ h9 => h9) rfl d_md_complete_4 ?_
      refine lv_icmp_ge (tgt := 30) hx hb d_md_complete_7 (by decide) (fun c_4 => ?_) (fun c_4 => ?_)
      · have hv := hv.1 c_4
        refine lv_iconst (v := 0) hx hb d_md_complete_30 (by decide) ?_
        refine lv_istore_n (lv' := [(1, .int 0), (0, .ref (ad 0))]) hx hb d_md_complete_31 rfl hl (by decide) rfl (fun ls hl => ?_)
        obtain ⟨I32_6, mu32_7, hi0, hv⟩ := hv
        have hP := hP.sub (ws' := [((ad 0), .inr (8, [.int md_thrownCode, .int md_p, .int md_n, .int md_order, .int md_monomials, .ref (ad 1), .ref (ad 2), .int md_generators, .ref (ad 3), .ref (ad 4), .int md_found, .int md_upTo, .ref (ad 5), .ref (ad 6), .ref (ad 7), .ref (ad 8), .int md_members, .int md_provedNow])), ((ad 1), .inl (cs 0, 126, .inl md_mono)), ((ad 2), .inl (cs 0, 126, .inl md_degree)), ((ad 3), .inl (cs 0, 1008, .inl md_generator)), ((ad 8), .inl (cs 0, 126, .inl md_basis))]) [0, 1, 2, 3, 4] rfl
        have hD := hD.sub (ws' := [((ad 0), .inr (8, [.int md_thrownCode, .int md_p, .int md_n, .int md_order, .int md_monomials, .ref (ad 1), .ref (ad 2), .int md_generators, .ref (ad 3), .ref (ad 4), .int md_found, .int md_upTo, .ref (ad 5), .ref (ad 6), .ref (ad 7), .ref (ad 8), .int md_members, .int md_provedNow])), ((ad 1), .inl (cs 0, 126, .inl md_mono)), ((ad 2), .inl (cs 0, 126, .inl md_degree)), ((ad 3), .inl (cs 0, 1008, .inl md_generator)), ((ad 8), .inl (cs 0, 126, .inl md_basis))]) [0, 1, 2, 3, 4] (by decide) rfl
        have hl := lv_sub (l' := [(0, .ref (ad 0)), (1, .int 0)]) hl [1, 0] rfl
        have loop32 : ∀ (nn : Nat) (x1_5 : Int32), mu32_7 x1_5 < nn → I32_6 x1_5 → ∀ (H : Heap) (locs : List Loc) (ls : Array Slot), va_P (dC, dI) vwCl [((ad 0), .inr (8, [.int md_thrownCode, .int md_p, .int md_n, .int md_order, .int md_monomials, .ref (ad 1), .ref (ad 2), .int md_generators, .ref (ad 3), .ref (ad 4), .int md_found, .int md_upTo, .ref (ad 5), .ref (ad 6), .ref (ad 7), .ref (ad 8), .int md_members, .int md_provedNow])), ((ad 1), .inl (cs 0, 126, .inl md_mono)), ((ad 2), .inl (cs 0, 126, .inl md_degree)), ((ad 3), .inl (cs 0, 1008, .inl md_generator)), ((ad 8), .inl (cs 0, 126, .inl md_basis))] H → va_D A [((ad 0), .inr (8, [.int md_thrownCode, .int md_p, .int md_n, .int md_order, .int md_monomials, .ref (ad 1), .ref (ad 2), .int md_generators, .ref (ad 3), .ref (ad 4), .int md_found, .int md_upTo, .ref (ad 5), .ref (ad 6), .ref (ad 7), .ref (ad 8), .int md_members, .int md_provedNow])), ((ad 1), .inl (cs 0, 126, .inl md_mono)), ((ad 2), .inl (cs 0, 126, .inl md_degree)), ((ad 3), .inl (cs 0, 1008, .inl md_generator)), ((ad 8), .inl (cs 0, 126, .inl md_basis))] → va_S A s.heap H locs → lv_has ls 8 [(0, .ref (ad 0)), (1, .int x1_5)] → W p l e (headSpec w_md_complete { frames := 1, cells := 0, slots := 0, locals := 23 }).room s m ([.ref (ad 0)] : List Value).toArray below meth c H locs 0 0 (MQ below (va_Qi (fun (r : Int32) (u : Unit) => Q r) (at_md_complete dC dI cs A ad md_thrownCode md_p md_n md_order md_monomials md_generators md_found md_upTo md_members md_provedNow md_mono md_degree md_generator md_basis) A) ([.ref (ad 0)] : List Value).toArray s 0 0 A) (F0 m 32 ls []) := by
          intro nn
          induction nn with
          | zero => intro x1_5 hlt; exact absurd hlt (Nat.not_lt_zero _)
          | succ nn ih32 =>
            intro x1_5 hlt32 hI H locs ls hP hD hS hl
            have hv := hv x1_5 hI
            refine lv_iload_n hx hb d_md_complete_32 rfl (lv_at hl 1 rfl) ?_
            refine lv_aload_n hx hb d_md_complete_33 rfl (lv_at hl 0 rfl) ?_
            refine va_get (D := (dC, dI)) (ci := 8) (v := .int md_members) (C := R_md) (T := F_md) (N := 18) hx hb hts in_md hown hK hP 0 rfl rfl 16 (by decide) (hts _ kw_634) (fun _ h9 => h9) rfl d_md_complete_34 ?_
            refine lv_icmp_ge (tgt := 158) hx hb d_md_complete_37 (by decide) (fun c_8 => ?_) (fun c_8 => ?_)
            · have hv := hv.1 c_8
              refine lv_iconst (v := 1) hx hb d_md_complete_158 (by decide) ?_
              have hP9 := hP.sub (ws' := [((ad 0), .inr (8, [.int md_thrownCode, .int md_p, .int md_n, .int md_order, .int md_monomials, .ref (ad 1), .ref (ad 2), .int md_generators, .ref (ad 3), .ref (ad 4), .int md_found, .int md_upTo, .ref (ad 5), .ref (ad 6), .ref (ad 7), .ref (ad 8), .int md_members, .int md_provedNow])), ((ad 1), .inl (cs 0, 126, .inl md_mono)), ((ad 2), .inl (cs 0, 126, .inl md_degree)), ((ad 3), .inl (cs 0, 1008, .inl md_generator)), ((ad 8), .inl (cs 0, 126, .inl md_basis))]) [0, 1, 2, 3, 4] rfl
              have hD9 := hD.sub (ws' := [((ad 0), .inr (8, [.int md_thrownCode, .int md_p, .int md_n, .int md_order, .int md_monomials, .ref (ad 1), .ref (ad 2), .int md_generators, .ref (ad 3), .ref (ad 4), .int md_found, .int md_upTo, .ref (ad 5), .ref (ad 6), .ref (ad 7), .ref (ad 8), .int md_members, .int md_provedNow])), ((ad 1), .inl (cs 0, 126, .inl md_mono)), ((ad 2), .inl (cs 0, 126, .inl md_degree)), ((ad 3), .inl (cs 0, 1008, .inl md_generator)), ((ad 8), .inl (cs 0, 126, .inl md_basis))]) [0, 1, 2, 3, 4] (by decide) rfl
              exact W.zret (v := 1) hx hb hr rfl (fun t ht hW => ⟨⟨1, (), rfl, hv, by rw [ht]; exact hP9, hD9⟩, hS.F ht⟩) hS.2.2 d_md_complete_159
            · have hv := hv.2 c_8
              refine lv_iconst (v := 0) hx hb d_md_complete_40 (by decide) ?_
              refine lv_istore_n (lv' := [(2, .int 0), (0, .ref (ad 0)), (1, .int x1_5)]) hx hb d_md_complete_41 rfl hl (by decide) rfl (fun ls hl => ?_)
              obtain ⟨I42_10, mu42_11, hi0, hv⟩ := hv
              have hP := hP.sub (ws' := [((ad 0), .inr (8, [.int md_thrownCode, .int md_p, .int md_n, .int md_order, .int md_monomials, .ref (ad 1), .ref (ad 2), .int md_generators, .ref (ad 3), .ref (ad 4), .int md_found, .int md_upTo, .ref (ad 5), .ref (ad 6), .ref (ad 7), .ref (ad 8), .int md_members, .int md_provedNow])), ((ad 1), .inl (cs 0, 126, .inl md_mono)), ((ad 2), .inl (cs 0, 126, .inl md_degree)), ((ad 3), .inl (cs 0, 1008, .inl md_generator)), ((ad 8), .inl (cs 0, 126, .inl md_basis))]) [0, 1, 2, 3, 4] rfl
              have hD := hD.sub (ws' := [((ad 0), .inr (8, [.int md_thrownCode, .int md_p, .int md_n, .int md_order, .int md_monomials, .ref (ad 1), .ref (ad 2), .int md_generators, .ref (ad 3), .ref (ad 4), .int md_found, .int md_upTo, .ref (ad 5), .ref (ad 6), .ref (ad 7), .ref (ad 8), .int md_members, .int md_provedNow])), ((ad 1), .inl (cs 0, 126, .inl md_mono)), ((ad 2), .inl (cs 0, 126, .inl md_degree)), ((ad 3), .inl (cs 0, 1008, .inl md_generator)), ((ad 8), .inl (cs 0, 126, .inl md_basis))]) [0, 1, 2, 3, 4] (by decide) rfl
              have hl := lv_sub (l' := [(0, .ref (ad 0)), (1, .int x1_5), (2, .int 0)]) hl [1, 2, 0] rfl
              have loop42 : ∀ (nn : Nat) (x2_9 : Int32), mu42_11 x2_9 < nn → I42_10 x2_9 → ∀ (H : Heap) (locs : List Loc) (ls : Array Slot), va_P (dC, dI) vwCl [((ad 0), .inr (8, [.int md_thrownCode, .int md_p, .int md_n, .int md_order, .int md_monomials, .ref (ad 1), .ref (ad 2), .int md_generators, .ref (ad 3), .ref (ad 4), .int md_found, .int md_upTo, .ref (ad 5), .ref (ad 6), .ref (ad 7), .ref (ad 8), .int md_members, .int md_provedNow])), ((ad 1), .inl (cs 0, 126, .inl md_mono)), ((ad 2), .inl (cs 0, 126, .inl md_degree)), ((ad 3), .inl (cs 0, 1008, .inl md_generator)), ((ad 8), .inl (cs 0, 126, .inl md_basis))] H → va_D A [((ad 0), .inr (8, [.int md_thrownCode, .int md_p, .int md_n, .int md_order, .int md_monomials, .ref (ad 1), .ref (ad 2), .int md_generators, .ref (ad 3), .ref (ad 4), .int md_found, .int md_upTo, .ref (ad 5), .ref (ad 6), .ref (ad 7), .ref (ad 8), .int md_members, .int md_provedNow])), ((ad 1), .inl (cs 0, 126, .inl md_mono)), ((ad 2), .inl (cs 0, 126, .inl md_degree)), ((ad 3), .inl (cs 0, 1008, .inl md_generator)), ((ad 8), .inl (cs 0, 126, .inl md_basis))] → va_S A s.heap H locs → lv_has ls 8 [(0, .ref (ad 0)), (1, .int x1_5), (2, .int x2_9)] → W p l e (headSpec w_md_complete { frames := 1, cells := 0, slots := 0, locals := 23 }).room s m ([.ref (ad 0)] : List Value).toArray below meth c H locs 0 0 (MQ below (va_Qi (fun (r : Int32) (u : Unit) => Q r) (at_md_complete dC dI cs A ad md_thrownCode md_p md_n md_order md_monomials md_generators md_found md_upTo md_members md_provedNow md_mono md_degree md_generator md_basis) A) ([.ref (ad 0)] : List Value).toArray s 0 0 A) (F0 m 42 ls []) := by
                intro nn
                induction nn with
                | zero => intro x2_9 hlt; exact absurd hlt (Nat.not_lt_zero _)
                | succ nn ih42 =>
                  intro x2_9 hlt42 hI H locs ls hP hD hS hl
                  have hv := hv x2_9 hI
                  refine lv_iload_n hx hb d_md_complete_42 rfl (lv_at hl 2 rfl) ?_
                  refine lv_iload_n hx hb d_md_complete_43 rfl (lv_at hl 1 rfl) ?_
                  refine lv_icmp_ge (tgt := 152) hx hb d_md_complete_44 (by decide) (fun c_12 => ?_) (fun c_12 => ?_)
                  · have hv := hv.1 c_12
                    obtain ⟨x1_13, ex1_13⟩ : ∃ y : Int32, y = x1_5 + 1 := ⟨_, rfl⟩
                    have hv := hv x1_13 ex1_13
                    refine lv_iinc (v := x1_13) (lv' := [(1, .int x1_13), (0, .ref (ad 0)), (2, .int x2_9)]) hx hb d_md_complete_152 hl (k := 1) rfl (by rw [ex1_13]; rfl) (by decide) rfl (fun ls hl => ?_)
                    refine lv_goto (tgt := 32) hx hb d_md_complete_155 (by decide) ?_
                    exact ih32 x1_13 (Nat.lt_of_lt_of_le hv.2 (Nat.le_of_lt_succ hlt32)) hv.1 _ _ _ (hP.sub [0, 1, 2, 3, 4] rfl) (hD.sub [0, 1, 2, 3, 4] (by decide) rfl) hS (lv_sub hl [1, 0] rfl)
                  · have hv := hv.2 c_12
                    refine lv_iconst (v := 0) hx hb d_md_complete_47 (by decide) ?_
                    refine lv_istore_n (lv' := [(3, .int 0), (0, .ref (ad 0)), (1, .int x1_5), (2, .int x2_9)]) hx hb d_md_complete_48 rfl hl (by decide) rfl (fun ls hl => ?_)
                    refine lv_iconst (v := 0) hx hb d_md_complete_49 (by decide) ?_
                    refine lv_istore (lv' := [(4, .int 0), (3, .int 0), (0, .ref (ad 0)), (1, .int x1_5), (2, .int x2_9)]) hx hb d_md_complete_50 hl (by decide) rfl (fun ls hl => ?_)
                    refine lv_iconst (v := 0) hx hb d_md_complete_52 (by decide) ?_
                    refine lv_istore (lv' := [(5, .int 0), (4, .int 0), (3, .int 0), (0, .ref (ad 0)), (1, .int x1_5), (2, .int x2_9)]) hx hb d_md_complete_53 hl (by decide) rfl (fun ls hl => ?_)
                    obtain ⟨I55_17, mu55_18, hi0, hv⟩ := hv
                    have hP := hP.sub (ws' := [((ad 0), .inr (8, [.int md_thrownCode, .int md_p, .int md_n, .int md_order, .int md_monomials, .ref (ad 1), .ref (ad 2), .int md_generators, .ref (ad 3), .ref (ad 4), .int md_found, .int md_upTo, .ref (ad 5), .ref (ad 6), .ref (ad 7), .ref (ad 8), .int md_members, .int md_provedNow])), ((ad 1), .inl (cs 0, 126, .inl md_mono)), ((ad 2), .inl (cs 0, 126, .inl md_degree)), ((ad 3), .inl (cs 0, 1008, .inl md_generator)), ((ad 8), .inl (cs 0, 126, .inl md_basis))]) [0, 1, 2, 3, 4] rfl
                    have hD := hD.sub (ws' := [((ad 0), .inr (8, [.int md_thrownCode, .int md_p, .int md_n, .int md_order, .int md_monomials, .ref (ad 1), .ref (ad 2), .int md_generators, .ref (ad 3), .ref (ad 4), .int md_found, .int md_upTo, .ref (ad 5), .ref (ad 6), .ref (ad 7), .ref (ad 8), .int md_members, .int md_provedNow])), ((ad 1), .inl (cs 0, 126, .inl md_mono)), ((ad 2), .inl (cs 0, 126, .inl md_degree)), ((ad 3), .inl (cs 0, 1008, .inl md_generator)), ((ad 8), .inl (cs 0, 126, .inl md_basis))]) [0, 1, 2, 3, 4] (by decide) rfl
                    have hl := lv_sub (l' := [(0, .ref (ad 0)), (1, .int x1_5), (2, .int x2_9), (3, .int 0), (4, .int 0), (5, .int 0)]) hl [3, 4, 5, 2, 1, 0] rfl
                    have loop55 : ∀ (nn : Nat) (x3_14 : Int32) (x4_15 : Int32) (x5_16 : Int32), mu55_18 x3_14 x4_15 x5_16 < nn → I55_17 x3_14 x4_15 x5_16 → ∀ (H : Heap) (locs : List Loc) (ls : Array Slot), va_P (dC, dI) vwCl [((ad 0), .inr (8, [.int md_thrownCode, .int md_p, .int md_n, .int md_order, .int md_monomials, .ref (ad 1), .ref (ad 2), .int md_generators, .ref (ad 3), .ref (ad 4), .int md_found, .int md_upTo, .ref (ad 5), .ref (ad 6), .ref (ad 7), .ref (ad 8), .int md_members, .int md_provedNow])), ((ad 1), .inl (cs 0, 126, .inl md_mono)), ((ad 2), .inl (cs 0, 126, .inl md_degree)), ((ad 3), .inl (cs 0, 1008, .inl md_generator)), ((ad 8), .inl (cs 0, 126, .inl md_basis))] H → va_D A [((ad 0), .inr (8, [.int md_thrownCode, .int md_p, .int md_n, .int md_order, .int md_monomials, .ref (ad 1), .ref (ad 2), .int md_generators, .ref (ad 3), .ref (ad 4), .int md_found, .int md_upTo, .ref (ad 5), .ref (ad 6), .ref (ad 7), .ref (ad 8), .int md_members, .int md_provedNow])), ((ad 1), .inl (cs 0, 126, .inl md_mono)), ((ad 2), .inl (cs 0, 126, .inl md_degree)), ((ad 3), .inl (cs 0, 1008, .inl md_generator)), ((ad 8), .inl (cs 0, 126, .inl md_basis))] → va_S A s.heap H locs → lv_has ls 8 [(0, .ref (ad 0)), (1, .int x1_5), (2, .int x2_9), (3, .int x3_14), (4, .int x4_15), (5, .int x5_16)] → W p l e (headSpec w_md_complete { frames := 1, cells := 0, slots := 0, locals := 23 }).room s m ([.ref (ad 0)] : List Value).toArray below meth c H locs 0 0 (MQ below (va_Qi (fun (r : Int32) (u : Unit) => Q r) (at_md_complete dC dI cs A ad md_thrownCode md_p md_n md_order md_monomials md_generators md_found md_upTo md_members md_provedNow md_mono md_degree md_generator md_basis) A) ([.ref (ad 0)] : List Value).toArray s 0 0 A) (F0 m 55 ls []) := by
                      intro nn
                      induction nn with
                      | zero => intro x3_14 x4_15 x5_16 hlt; exact absurd hlt (Nat.not_lt_zero _)
                      | succ nn ih55 =>
                        intro x3_14 x4_15 x5_16 hlt55 hI H locs ls hP hD hS hl
                        have hv := hv x3_14 x4_15 x5_16 hI
                        refine lv_iload hx hb d_md_complete_55 (lv_at hl 5 rfl) ?_
                        refine lv_iconst (v := 4) hx hb d_md_complete_57 (by decide) ?_
                        refine lv_icmp_ge (tgt := 130) hx hb d_md_complete_58 (by decide) (fun c_19 => ?_) (fun c_19 => ?_)
                        · have hv := hv.1 c_19
                          refine lv_iload_n hx hb d_md_complete_130 rfl (lv_at hl 3 rfl) ?_
                          refine lv_aload_n hx hb d_md_complete_131 rfl (lv_at hl 0 rfl) ?_
                          refine va_get (D := (dC, dI)) (ci := 8) (v := .int md_upTo) (C := R_md) (T := F_md) (N := 18) hx hb hts in_md hown hK hP 0 rfl rfl 11 (by decide) (hts _ kw_629) (fun _ h9 => h9) rfl d_md_complete_132 ?_
                          refine lv_icmp_le (tgt := 146) hx hb d_md_complete_135 (by decide) (fun c_20 => ?_) (fun c_20 => ?_)
                          · have hv := hv.1 c_20
                            obtain ⟨x2_21, ex2_21⟩ : ∃ y : Int32, y = x2_9 + 1 := ⟨_, rfl⟩
                            have hv := hv x2_21 ex2_21
                            refine lv_iinc (v := x2_21) (lv' := [(2, .int x2_21), (0, .ref (ad 0)), (1, .int x1_5), (3, .int x3_14), (4, .int x4_15), (5, .int x5_16)]) hx hb d_md_complete_146 hl (k := 2) rfl (by rw [ex2_21]; rfl) (by decide) rfl (fun ls hl => ?_)
                            refine lv_goto (tgt := 42) hx hb d_md_complete_149 (by decide) ?_
                            exact ih42 x2_21 (Nat.lt_of_lt_of_le hv.2 (Nat.le_of_lt_succ hlt42)) hv.1 _ _ _ (hP.sub [0, 1, 2, 3, 4] rfl) (hD.sub [0, 1, 2, 3, 4] (by decide) rfl) hS (lv_sub hl [1, 2, 0] rfl)
                          · have hv := hv.2 c_20
                            refine lv_iload_n hx hb d_md_complete_138 rfl (lv_at hl 3 rfl) ?_
                            refine lv_iload hx hb d_md_complete_139 (lv_at hl 4 rfl) ?_
                            refine lv_icmp_eq (tgt := 146) hx hb d_md_complete_141 (by decide) (fun c_22 => ?_) (fun c_22 => ?_)
                            · have hv := hv.1 c_22
                              obtain ⟨x2_23, ex2_23⟩ : ∃ y : Int32, y = x2_9 + 1 := ⟨_, rfl⟩
                              have hv := hv x2_23 ex2_23
                              refine lv_iinc (v := x2_23) (lv' := [(2, .int x2_23), (0, .ref (ad 0)), (1, .int x1_5), (3, .int x3_14), (4, .int x4_15), (5, .int x5_16)]) hx hb d_md_complete_146 hl (k := 2) rfl (by rw [ex2_23]; rfl) (by decide) rfl (fun ls hl => ?_)
                              refine lv_goto (tgt := 42) hx hb d_md_complete_149 (by decide) ?_
                              exact ih42 x2_23 (Nat.lt_of_lt_of_le hv.2 (Nat.le_of_lt_succ hlt42)) hv.1 _ _ _ (hP.sub [0, 1, 2, 3, 4] rfl) (hD.sub [0, 1, 2, 3, 4] (by decide) rfl) hS (lv_sub hl [1, 2, 0] rfl)
                            · have hv := hv.2 c_22
                              refine lv_iconst (v := 0) hx hb d_md_complete_144 (by decide) ?_
                              have hP9 := hP.sub (ws' := [((ad 0), .inr (8, [.int md_thrownCode, .int md_p, .int md_n, .int md_order, .int md_monomials, .ref (ad 1), .ref (ad 2), .int md_generators, .ref (ad 3), .ref (ad 4), .int md_found, .int md_upTo, .ref (ad 5), .ref (ad 6), .ref (ad 7), .ref (ad 8), .int md_members, .int md_provedNow])), ((ad 1), .inl (cs 0, 126, .inl md_mono)), ((ad 2), .inl (cs 0, 126, .inl md_degree)), ((ad 3), .inl (cs 0, 1008, .inl md_generator)), ((ad 8), .inl (cs 0, 126, .inl md_basis))]) [0, 1, 2, 3, 4] rfl
                              have hD9 := hD.sub (ws' := [((ad 0), .inr (8, [.int md_thrownCode, .int md_p, .int md_n, .int md_order, .int md_monomials, .ref (ad 1), .ref (ad 2), .int md_generators, .ref (ad 3), .ref (ad 4), .int md_found, .int md_upTo, .ref (ad 5), .ref (ad 6), .ref (ad 7), .ref (ad 8), .int md_members, .int md_provedNow])), ((ad 1), .inl (cs 0, 126, .inl md_mono)), ((ad 2), .inl (cs 0, 126, .inl md_degree)), ((ad 3), .inl (cs 0, 1008, .inl md_generator)), ((ad 8), .inl (cs 0, 126, .inl md_basis))]) [0, 1, 2, 3, 4] (by decide) rfl
                              exact W.zret (v := 0) hx hb hr rfl (fun t ht hW => ⟨⟨0, (), rfl, hv, by rw [ht]; exact hP9, hD9⟩, hS.F ht⟩) hS.2.2 d_md_complete_145
                        · have hv := hv.2 c_19
                          refine lv_aload_n hx hb d_md_complete_61 rfl (lv_at hl 0 rfl) ?_
                          refine va_get (D := (dC, dI)) (ci := 8) (v := .ref (ad 1)) (C := R_md) (T := F_md) (N := 18) hx hb hts in_md hown hK hP 0 rfl rfl 5 (by decide) (hts _ kw_623) (fun _ h9 => h9) rfl d_md_complete_62 ?_
                          refine lv_aload_n hx hb d_md_complete_65 rfl (lv_at hl 0 rfl) ?_
                          refine va_get (D := (dC, dI)) (ci := 8) (v := .ref (ad 8)) (C := R_md) (T := F_md) (N := 18) hx hb hts in_md hown hK hP 0 rfl rfl 15 (by decide) (hts _ kw_633) (fun _ h9 => h9) rfl d_md_complete_66 ?_
                          refine lv_iload_n hx hb d_md_complete_69 rfl (lv_at hl 1 rfl) ?_
                          obtain ⟨hi_24, hv⟩ := hv
                          refine va_iald hx hb hK hP 4 0 rfl rfl hi_24 d_md_complete_70 ?_
                          obtain ⟨hi_25, hv⟩ := hv
                          refine va_iald hx hb hK hP 1 0 rfl rfl hi_25 d_md_complete_71 ?_
                          refine lv_iload hx hb d_md_complete_72 (lv_at hl 5 rfl) ?_
                          have hPc := hP.sub (ws' := []) [] rfl
                          have hDc := hD.sub (ws' := []) [] (by decide) rfl
                          have hFc := va_free (wc := []) hD hS hA [] rfl
                          refine va_calli (va_runS (As := [.int (md_mono ((md_basis x1_5.toNatClampNeg)).toNatClampNeg), .int x5_16]) (rest := []) ⟨hx, hb, hml, hown, hts⟩ (c_md_exponent l dC dI cs ad  H.size (md_mono ((md_basis x1_5.toNatClampNeg)).toNatClampNeg) x5_16 _ hv) (va_cwS 2 hts (gd_S kw_615 kw_616 kw_41 kw_617) rfl rfl rfl (by decide +kernel) ⟨Nat.le_of_ble_eq_true rfl, Nat.le_of_ble_eq_true rfl⟩) ⟨fun a U g mk q => by obtain ⟨q0, q1, qP, qK, qD⟩ := q; exact ⟨q0, q1, qP, qK.call, qD⟩, fun U hU hW => ⟨rfl, by rw [hU], by rw [hU]; exact hPc, vwK.warm hW ⟨hK, hN⟩, hDc.weaken (fun _ _ _ _ => trivial)⟩⟩ rfl rfl hl.1 rfl (lv_room (Nat.le_of_ble_eq_true rfl)) d_md_complete_74 ⟨Nat.zero_le _, Nat.zero_le _⟩) hS (fun q _ h => hFc q h) hFc (fun r_26 _u t H1 locs1 ht hvm hw hB hz1 hk1 hS => ?_)
                          obtain ⟨hP1, hD1⟩ := hB
                          rw [ht] at hP1
                          obtain ⟨hP, hD⟩ := va_join (wr := [((ad 0), .inr (8, [.int md_thrownCode, .int md_p, .int md_n, .int md_order, .int md_monomials, .ref (ad 1), .ref (ad 2), .int md_generators, .ref (ad 3), .ref (ad 4), .int md_found, .int md_upTo, .ref (ad 5), .ref (ad 6), .ref (ad 7), .ref (ad 8), .int md_members, .int md_provedNow])), ((ad 1), .inl (cs 0, 126, .inl md_mono)), ((ad 2), .inl (cs 0, 126, .inl md_degree)), ((ad 3), .inl (cs 0, 1008, .inl md_generator)), ((ad 8), .inl (cs 0, 126, .inl md_basis))]) (w1 := []) hP hD [] [0, 1, 2, 3, 4] rfl rfl (by decide) (by decide) hk1 hFc hP1 hD1
                          generalize H1 = H at hP hS ⊢
                          generalize locs1 = locs at hS ⊢
                          have hP : va_P (dC, dI) vwCl [((ad 0), .inr (8, [.int md_thrownCode, .int md_p, .int md_n, .int md_order, .int md_monomials, .ref (ad 1), .ref (ad 2), .int md_generators, .ref (ad 3), .ref (ad 4), .int md_found, .int md_upTo, .ref (ad 5), .ref (ad 6), .ref (ad 7), .ref (ad 8), .int md_members, .int md_provedNow])), ((ad 1), .inl (cs 0, 126, .inl md_mono)), ((ad 2), .inl (cs 0, 126, .inl md_degree)), ((ad 3), .inl (cs 0, 1008, .inl md_generator)), ((ad 8), .inl (cs 0, 126, .inl md_basis))] H := hP
                          have hD : va_D A [((ad 0), .inr (8, [.int md_thrownCode, .int md_p, .int md_n, .int md_order, .int md_monomials, .ref (ad 1), .ref (ad 2), .int md_generators, .ref (ad 3), .ref (ad 4), .int md_found, .int md_upTo, .ref (ad 5), .ref (ad 6), .ref (ad 7), .ref (ad 8), .int md_members, .int md_provedNow])), ((ad 1), .inl (cs 0, 126, .inl md_mono)), ((ad 2), .inl (cs 0, 126, .inl md_degree)), ((ad 3), .inl (cs 0, 1008, .inl md_generator)), ((ad 8), .inl (cs 0, 126, .inl md_basis))] := hD
                          have hv := hw
                          try dsimp only at hv
                          refine lv_istore (lv' := [(6, .int r_26), (0, .ref (ad 0)), (1, .int x1_5), (2, .int x2_9), (3, .int x3_14), (4, .int x4_15), (5, .int x5_16)]) hx hb d_md_complete_77 hl (by decide) rfl (fun ls hl => ?_)
                          refine lv_aload_n hx hb d_md_complete_79 rfl (lv_at hl 1 rfl) ?_
                          refine va_get (D := (dC, dI)) (ci := 8) (v := .ref (ad 1)) (C := R_md) (T := F_md) (N := 18) hx hb hts in_md hown hK hP 0 rfl rfl 5 (by decide) (hts _ kw_623) (fun _ h9 => h9) rfl d_md_complete_80 ?_
                          refine lv_aload_n hx hb d_md_complete_83 rfl (lv_at hl 1 rfl) ?_
                          refine va_get (D := (dC, dI)) (ci := 8) (v := .ref (ad 8)) (C := R_md) (T := F_md) (N := 18) hx hb hts in_md hown hK hP 0 rfl rfl 15 (by decide) (hts _ kw_633) (fun _ h9 => h9) rfl d_md_complete_84 ?_
                          refine lv_iload_n hx hb d_md_complete_87 rfl (lv_at hl 3 rfl) ?_
                          obtain ⟨hi_27, hv⟩ := hv
                          refine va_iald hx hb hK hP 4 0 rfl rfl hi_27 d_md_complete_88 ?_
                          obtain ⟨hi_28, hv⟩ := hv
                          refine va_iald hx hb hK hP 1 0 rfl rfl hi_28 d_md_complete_89 ?_
                          refine lv_iload hx hb d_md_complete_90 (lv_at hl 6 rfl) ?_
                          have hPc := hP.sub (ws' := []) [] rfl
                          have hDc := hD.sub (ws' := []) [] (by decide) rfl
                          have hFc := va_free (wc := []) hD hS hA [] rfl
                          refine va_calli (va_runS (As := [.int (md_mono ((md_basis x2_9.toNatClampNeg)).toNatClampNeg), .int x5_16]) (rest := []) ⟨hx, hb, hml, hown, hts⟩ (c_md_exponent l dC dI cs ad  H.size (md_mono ((md_basis x2_9.toNatClampNeg)).toNatClampNeg) x5_16 _ hv) (va_cwS 2 hts (gd_S kw_615 kw_616 kw_41 kw_617) rfl rfl rfl (by decide +kernel) ⟨Nat.le_of_ble_eq_true rfl, Nat.le_of_ble_eq_true rfl⟩) ⟨fun a U g mk q => by obtain ⟨q0, q1, qP, qK, qD⟩ := q; exact ⟨q0, q1, qP, qK.call, qD⟩, fun U hU hW => ⟨rfl, by rw [hU], by rw [hU]; exact hPc, vwK.warm hW ⟨hK, hN⟩, hDc.weaken (fun _ _ _ _ => trivial)⟩⟩ rfl rfl hl.1 rfl (lv_room (Nat.le_of_ble_eq_true rfl)) d_md_complete_92 ⟨Nat.zero_le _, Nat.zero_le _⟩) hS (fun q _ h => hFc q h) hFc (fun r_29 _u t H1 locs1 ht hvm hw hB hz1 hk1 hS => ?_)
                          obtain ⟨hP1, hD1⟩ := hB
                          rw [ht] at hP1
                          obtain ⟨hP, hD⟩ := va_join (wr := [((ad 0), .inr (8, [.int md_thrownCode, .int md_p, .int md_n, .int md_order, .int md_monomials, .ref (ad 1), .ref (ad 2), .int md_generators, .ref (ad 3), .ref (ad 4), .int md_found, .int md_upTo, .ref (ad 5), .ref (ad 6), .ref (ad 7), .ref (ad 8), .int md_members, .int md_provedNow])), ((ad 1), .inl (cs 0, 126, .inl md_mono)), ((ad 2), .inl (cs 0, 126, .inl md_degree)), ((ad 3), .inl (cs 0, 1008, .inl md_generator)), ((ad 8), .inl (cs 0, 126, .inl md_basis))]) (w1 := []) hP hD [] [0, 1, 2, 3, 4] rfl rfl (by decide) (by decide) hk1 hFc hP1 hD1
                          generalize H1 = H at hP hS ⊢
                          generalize locs1 = locs at hS ⊢
                          have hP : va_P (dC, dI) vwCl [((ad 0), .inr (8, [.int md_thrownCode, .int md_p, .int md_n, .int md_order, .int md_monomials, .ref (ad 1), .ref (ad 2), .int md_generators, .ref (ad 3), .ref (ad 4), .int md_found, .int md_upTo, .ref (ad 5), .ref (ad 6), .ref (ad 7), .ref (ad 8), .int md_members, .int md_provedNow])), ((ad 1), .inl (cs 0, 126, .inl md_mono)), ((ad 2), .inl (cs 0, 126, .inl md_degree)), ((ad 3), .inl (cs 0, 1008, .inl md_generator)), ((ad 8), .inl (cs 0, 126, .inl md_basis))] H := hP
                          have hD : va_D A [((ad 0), .inr (8, [.int md_thrownCode, .int md_p, .int md_n, .int md_order, .int md_monomials, .ref (ad 1), .ref (ad 2), .int md_generators, .ref (ad 3), .ref (ad 4), .int md_found, .int md_upTo, .ref (ad 5), .ref (ad 6), .ref (ad 7), .ref (ad 8), .int md_members, .int md_provedNow])), ((ad 1), .inl (cs 0, 126, .inl md_mono)), ((ad 2), .inl (cs 0, 126, .inl md_degree)), ((ad 3), .inl (cs 0, 1008, .inl md_generator)), ((ad 8), .inl (cs 0, 126, .inl md_basis))] := hD
                          have hv := hw
                          try dsimp only at hv
                          refine lv_istore (lv' := [(7, .int r_29), (6, .int r_26), (0, .ref (ad 0)), (1, .int x1_5), (2, .int x2_9), (3, .int x3_14), (4, .int x4_15), (5, .int x5_16)]) hx hb d_md_complete_95 hl (by decide) rfl (fun ls hl => ?_)
                          refine lv_iload_n hx hb d_md_complete_97 rfl (lv_at hl 5 rfl) ?_
                          refine lv_iload hx hb d_md_complete_98 (lv_at hl 1 rfl) ?_
                          refine lv_iload hx hb d_md_complete_100 (lv_at hl 0 rfl) ?_
                          refine lv_icmp_le (tgt := 110) hx hb d_md_complete_102 (by decide) (fun c_30 => ?_) (fun c_30 => ?_)
                          · have hv := hv.1 c_30
                            refine lv_iload hx hb d_md_complete_110 (lv_at hl 0 rfl) ?_
                            refine lv_iadd hx hb d_md_complete_112 ?_
                            refine lv_topi (fun x3_31 ex3_31 => ?_)
                            have hv := hv x3_31 ex3_31
                            refine lv_istore_n (lv' := [(3, .int x3_31), (7, .int r_29), (6, .int r_26), (0, .ref (ad 0)), (1, .int x1_5), (2, .int x2_9), (4, .int x4_15), (5, .int x5_16)]) hx hb d_md_complete_113 rfl hl (by decide) rfl (fun ls hl => ?_)
                            refine lv_iload hx hb d_md_complete_114 (lv_at hl 6 rfl) ?_
                            refine lv_iload hx hb d_md_complete_116 (lv_at hl 2 rfl) ?_
                            refine lv_iload hx hb d_md_complete_118 (lv_at hl 1 rfl) ?_
                            refine lv_iadd hx hb d_md_complete_120 ?_
                            refine lv_iadd hx hb d_md_complete_121 ?_
                            refine lv_topi (fun x4_32 ex4_32 => ?_)
                            have hv := hv x4_32 ex4_32
                            refine lv_istore (lv' := [(4, .int x4_32), (3, .int x3_31), (7, .int r_29), (6, .int r_26), (0, .ref (ad 0)), (1, .int x1_5), (2, .int x2_9), (5, .int x5_16)]) hx hb d_md_complete_122 hl (by decide) rfl (fun ls hl => ?_)
                            obtain ⟨x5_33, ex5_33⟩ : ∃ y : Int32, y = x5_16 + 1 := ⟨_, rfl⟩
                            have hv := hv x5_33 ex5_33
                            refine lv_iinc (v := x5_33) (lv' := [(5, .int x5_33), (4, .int x4_32), (3, .int x3_31), (7, .int r_29), (6, .int r_26), (0, .ref (ad 0)), (1, .int x1_5), (2, .int x2_9)]) hx hb d_md_complete_124 hl (k := 7) rfl (by rw [ex5_33]; rfl) (by decide) rfl (fun ls hl => ?_)
                            refine lv_goto (tgt := 55) hx hb d_md_complete_127 (by decide) ?_
                            exact ih55 x3_31 x4_32 x5_33 (Nat.lt_of_lt_of_le hv.2 (Nat.le_of_lt_succ hlt55)) hv.1 _ _ _ (hP.sub [0, 1, 2, 3, 4] rfl) (hD.sub [0, 1, 2, 3, 4] (by decide) rfl) hS (lv_sub hl [5, 6, 7, 2, 1, 0] rfl)
                          · have hv := hv.2 c_30
                            refine lv_iload hx hb d_md_complete_105 (lv_at hl 1 rfl) ?_
                            refine lv_goto (tgt := 112) hx hb d_md_complete_107 (by decide) ?_
                            refine lv_iadd hx hb d_md_complete_112 ?_
                            refine lv_topi (fun x3_34 ex3_34 => ?_)
                            have hv := hv x3_34 ex3_34
                            refine lv_istore_n (lv' := [(3, .int x3_34), (7, .int r_29), (6, .int r_26), (0, .ref (ad 0)), (1, .int x1_5), (2, .int x2_9), (4, .int x4_15), (5, .int x5_16)]) hx hb d_md_complete_113 rfl hl (by decide) rfl (fun ls hl => ?_)
                            refine lv_iload hx hb d_md_complete_114 (lv_at hl 6 rfl) ?_
                            refine lv_iload hx hb d_md_complete_116 (lv_at hl 2 rfl) ?_
                            refine lv_iload hx hb d_md_complete_118 (lv_at hl 1 rfl) ?_
                            refine lv_iadd hx hb d_md_complete_120 ?_
                            refine lv_iadd hx hb d_md_complete_121 ?_
                            refine lv_topi (fun x4_35 ex4_35 => ?_)
                            have hv := hv x4_35 ex4_35
                            refine lv_istore (lv' := [(4, .int x4_35), (3, .int x3_34), (7, .int r_29), (6, .int r_26), (0, .ref (ad 0)), (1, .int x1_5), (2, .int x2_9), (5, .int x5_16)]) hx hb d_md_complete_122 hl (by decide) rfl (fun ls hl => ?_)
                            obtain ⟨x5_36, ex5_36⟩ : ∃ y : Int32, y = x5_16 + 1 := ⟨_, rfl⟩
                            have hv := hv x5_36 ex5_36
                            refine lv_iinc (v := x5_36) (lv' := [(5, .int x5_36), (4, .int x4_35), (3, .int x3_34), (7, .int r_29), (6, .int r_26), (0, .ref (ad 0)), (1, .int x1_5), (2, .int x2_9)]) hx hb d_md_complete_124 hl (k := 7) rfl (by rw [ex5_36]; rfl) (by decide) rfl (fun ls hl => ?_)
                            refine lv_goto (tgt := 55) hx hb d_md_complete_127 (by decide) ?_
                            exact ih55 x3_34 x4_35 x5_36 (Nat.lt_of_lt_of_le hv.2 (Nat.le_of_lt_succ hlt55)) hv.1 _ _ _ (hP.sub [0, 1, 2, 3, 4] rfl) (hD.sub [0, 1, 2, 3, 4] (by decide) rfl) hS (lv_sub hl [5, 6, 7, 2, 1, 0] rfl)
                    exact loop55 _ 0 0 0 (Nat.lt_succ_self _) hi0 _ _ _ hP hD hS hl
              exact loop42 _ 0 (Nat.lt_succ_self _) hi0 _ _ _ hP hD hS hl
        exact loop32 _ 0 (Nat.lt_succ_self _) hi0 _ _ _ hP hD hS hl
      · have hv := hv.2 c_4
        refine lv_aload_n hx hb d_md_complete_10 rfl (lv_at hl 0 rfl) ?_
        refine lv_iload_n hx hb d_md_complete_11 rfl (lv_at hl 1 rfl) ?_
        have hPc := hP.sub (ws' := [((ad 0), .inr (8, [.int md_thrownCode, .int md_p, .int md_n, .int md_order, .int md_monomials, .ref (ad 1), .ref (ad 2), .int md_generators, .ref (ad 3), .ref (ad 4), .int md_found, .int md_upTo, .ref (ad 5), .ref (ad 6), .ref (ad 7), .ref (ad 8), .int md_members, .int md_provedNow])), ((ad 2), .inl (cs 0, 126, .inl md_degree)), ((ad 3), .inl (cs 0, 1008, .inl md_generator))]) [0, 2, 3] rfl
        have hDc := hD.sub (ws' := [((ad 0), .inr (8, [.int md_thrownCode, .int md_p, .int md_n, .int md_order, .int md_monomials, .ref (ad 1), .ref (ad 2), .int md_generators, .ref (ad 3), .ref (ad 4), .int md_found, .int md_upTo, .ref (ad 5), .ref (ad 6), .ref (ad 7), .ref (ad 8), .int md_members, .int md_provedNow])), ((ad 2), .inl (cs 0, 126, .inl md_degree)), ((ad 3), .inl (cs 0, 1008, .inl md_generator))]) [0, 2, 3] (by decide) rfl
        have hFc := va_free (wc := [((ad 0), .inr (8, [.int md_thrownCode, .int md_p, .int md_n, .int md_order, .int md_monomials, .ref (ad 1), .ref (ad 2), .int md_generators, .ref (ad 3), .ref (ad 4), .int md_found, .int md_upTo, .ref (ad 5), .ref (ad 6), .ref (ad 7), .ref (ad 8), .int md_members, .int md_provedNow])), ((ad 2), .inl (cs 0, 126, .inl md_degree)), ((ad 3), .inl (cs 0, 1008, .inl md_generator))]) hD hS hA [0, 2, 3] rfl
        refine va_calli (va_runV (As := [.int x1_1]) (rest := []) ⟨hx, hb, hml, hown, hts⟩ (c_md_degreeOfGenerator l dC dI cs ad  H.size md_thrownCode md_p md_n md_order md_monomials md_generators md_found md_upTo md_members md_provedNow md_degree md_generator x1_1 _ hv) (cwV 1 hts (gd_V kw_711 kw_712 kw_22 kw_41 kw_713) rfl rfl rfl (by decide +kernel) ⟨Nat.le_of_ble_eq_true rfl, Nat.le_of_ble_eq_true rfl⟩) ⟨fun a U g mk q => by obtain ⟨q0, q1, qP, qK, qD⟩ := q; exact ⟨q0, q1, qP, qK.call, qD⟩, va_recv hK hPc (ci := 8) (q0 := 0) rfl rfl, fun U hU hW => ⟨rfl, by rw [hU], by rw [hU]; exact hPc, vwK.warm hW ⟨hK, hN⟩, hDc.weaken (fun _ _ _ _ => trivial)⟩⟩ rfl rfl hl.1 rfl (lv_room (Nat.le_of_ble_eq_true rfl)) d_md_complete_12 ⟨Nat.zero_le _, Nat.zero_le _⟩) hS (fun q _ h => hFc q h) hFc (fun r_37 _u t H1 locs1 ht hvm hw hB hz1 hk1 hS => ?_)
        obtain ⟨hP1, hD1⟩ := hB
        rw [ht] at hP1
        obtain ⟨hP, hD⟩ := va_join (wr := [((ad 1), .inl (cs 0, 126, .inl md_mono)), ((ad 8), .inl (cs 0, 126, .inl md_basis))]) (w1 := [((ad 0), .inr (8, [.int md_thrownCode, .int md_p, .int md_n, .int md_order, .int md_monomials, .ref (ad 1), .ref (ad 2), .int md_generators, .ref (ad 3), .ref (ad 4), .int md_found, .int md_upTo, .ref (ad 5), .ref (ad 6), .ref (ad 7), .ref (ad 8), .int md_members, .int md_provedNow])), ((ad 2), .inl (cs 0, 126, .inl md_degree)), ((ad 3), .inl (cs 0, 1008, .inl md_generator))]) hP hD [0, 2, 3] [1, 4] rfl rfl (by decide) (by decide) hk1 hFc hP1 hD1
        generalize H1 = H at hP hS ⊢
        generalize locs1 = locs at hS ⊢
        have hP : va_P (dC, dI) vwCl [((ad 1), .inl (cs 0, 126, .inl md_mono)), ((ad 8), .inl (cs 0, 126, .inl md_basis)), ((ad 0), .inr (8, [.int md_thrownCode, .int md_p, .int md_n, .int md_order, .int md_monomials, .ref (ad 1), .ref (ad 2), .int md_generators, .ref (ad 3), .ref (ad 4), .int md_found, .int md_upTo, .ref (ad 5), .ref (ad 6), .ref (ad 7), .ref (ad 8), .int md_members, .int md_provedNow])), ((ad 2), .inl (cs 0, 126, .inl md_degree)), ((ad 3), .inl (cs 0, 1008, .inl md_generator))] H := hP
        have hD : va_D A [((ad 1), .inl (cs 0, 126, .inl md_mono)), ((ad 8), .inl (cs 0, 126, .inl md_basis)), ((ad 0), .inr (8, [.int md_thrownCode, .int md_p, .int md_n, .int md_order, .int md_monomials, .ref (ad 1), .ref (ad 2), .int md_generators, .ref (ad 3), .ref (ad 4), .int md_found, .int md_upTo, .ref (ad 5), .ref (ad 6), .ref (ad 7), .ref (ad 8), .int md_members, .int md_provedNow])), ((ad 2), .inl (cs 0, 126, .inl md_degree)), ((ad 3), .inl (cs 0, 1008, .inl md_generator))] := hD
        have hv := hw
        try dsimp only at hv
        refine lv_aload_n hx hb d_md_complete_15 rfl (lv_at hl 0 rfl) ?_
        refine va_get (D := (dC, dI)) (ci := 8) (v := .int md_upTo) (C := R_md) (T := F_md) (N := 18) hx hb hts in_md hown hK hP 2 rfl rfl 11 (by decide) (hts _ kw_629) (fun _ h9 => h9) rfl d_md_complete_16 ?_
        refine lv_icmp_le (tgt := 24) hx hb d_md_complete_19 (by decide) (fun c_38 => ?_) (fun c_38 => ?_)
        · have hv := hv.1 c_38
          obtain ⟨x1_39, ex1_39⟩ : ∃ y : Int32, y = x1_1 + 1 := ⟨_, rfl⟩
          have hv := hv x1_39 ex1_39
          refine lv_iinc (v := x1_39) (lv' := [(1, .int x1_39), (0, .ref (ad 0))]) hx hb d_md_complete_24 hl (k := 1) rfl (by rw [ex1_39]; rfl) (by decide) rfl (fun ls hl => ?_)
          refine lv_goto (tgt := 2) hx hb d_md_complete_27 (by decide) ?_
          exact ih2 x1_39 (Nat.lt_of_lt_of_le hv.2 (Nat.le_of_lt_succ hlt2)) hv.1 _ _ _ (hP.sub [2, 0, 3, 4, 1] rfl) (hD.sub [2, 0, 3, 4, 1] (by decide) rfl) hS (lv_sub hl [1, 0] rfl)
        · have hv := hv.2 c_38
          refine lv_iconst (v := 0) hx hb d_md_complete_22 (by decide) ?_
          have hP9 := hP.sub (ws' := [((ad 0), .inr (8, [.int md_thrownCode, .int md_p, .int md_n, .int md_order, .int md_monomials, .ref (ad 1), .ref (ad 2), .int md_generators, .ref (ad 3), .ref (ad 4), .int md_found, .int md_upTo, .ref (ad 5), .ref (ad 6), .ref (ad 7), .ref (ad 8), .int md_members, .int md_provedNow])), ((ad 1), .inl (cs 0, 126, .inl md_mono)), ((ad 2), .inl (cs 0, 126, .inl md_degree)), ((ad 3), .inl (cs 0, 1008, .inl md_generator)), ((ad 8), .inl (cs 0, 126, .inl md_basis))]) [2, 0, 3, 4, 1] rfl
          have hD9 := hD.sub (ws' := [((ad 0), .inr (8, [.int md_thrownCode, .int md_p, .int md_n, .int md_order, .int md_monomials, .ref (ad 1), .ref (ad 2), .int md_generators, .ref (ad 3), .ref (ad 4), .int md_found, .int md_upTo, .ref (ad 5), .ref (ad 6), .ref (ad 7), .ref (ad 8), .int md_members, .int md_provedNow])), ((ad 1), .inl (cs 0, 126, .inl md_mono)), ((ad 2), .inl (cs 0, 126, .inl md_degree)), ((ad 3), .inl (cs 0, 1008, .inl md_generator)), ((ad 8), .inl (cs 0, 126, .inl md_basis))]) [2, 0, 3, 4, 1] (by decide) rfl
          exact W.zret (v := 0) hx hb hr rfl (fun t ht hW => ⟨⟨0, (), rfl, hv, by rw [ht]; exact hP9, hD9⟩, hS.F ht⟩) hS.2.2 d_md_complete_23
  exact loop2 _ 0 (Nat.lt_succ_self _) hi0 _ _ _ hP hD hS hl
abbrev b_md_dimension : ByteArray := prog_10_method_19_code
def y_md_dimension : MethodName := ⟨"SpaceBasisModel", "dimension", "()I"⟩
def w_md_dimension : List Cond := Cond.code y_md_dimension b_md_dimension 8 (some .int) :: vwWS
theorem d_md_dimension_0 : decode b_md_dimension 0 = .ok (.iconst (-1), 1) := by decide +kernel
theorem d_md_dimension_1 : decode b_md_dimension 1 = .ok (.istore_n 1, 1) := by decide +kernel
theorem d_md_dimension_2 : decode b_md_dimension 2 = .ok (.iconst 0, 1) := by decide +kernel
theorem d_md_dimension_3 : decode b_md_dimension 3 = .ok (.istore_n 2, 1) := by decide +kernel
theorem d_md_dimension_4 : decode b_md_dimension 4 = .ok (.iload_n 2, 1) := by decide +kernel
theorem d_md_dimension_5 : decode b_md_dimension 5 = .ok (.iconst 1, 1) := by decide +kernel
theorem d_md_dimension_6 : decode b_md_dimension 6 = .ok (.aload_n 0, 1) := by decide +kernel
theorem d_md_dimension_7 : decode b_md_dimension 7 = .ok (.getfield 16, 3) := by decide +kernel
theorem d_md_dimension_10 : decode b_md_dimension 10 = .ok (.ishl, 1) := by decide +kernel
theorem d_md_dimension_11 : decode b_md_dimension 11 = .ok (.if_icmp .ge 134, 3) := by decide +kernel
theorem d_md_dimension_14 : decode b_md_dimension 14 = .ok (.iconst 1, 1) := by decide +kernel
theorem d_md_dimension_15 : decode b_md_dimension 15 = .ok (.istore_n 3, 1) := by decide +kernel
theorem d_md_dimension_16 : decode b_md_dimension 16 = .ok (.iconst 0, 1) := by decide +kernel
theorem d_md_dimension_17 : decode b_md_dimension 17 = .ok (.istore 4, 2) := by decide +kernel
theorem d_md_dimension_19 : decode b_md_dimension 19 = .ok (.iconst 0, 1) := by decide +kernel
theorem d_md_dimension_20 : decode b_md_dimension 20 = .ok (.istore 5, 2) := by decide +kernel
theorem d_md_dimension_22 : decode b_md_dimension 22 = .ok (.iload 5, 2) := by decide +kernel
theorem d_md_dimension_24 : decode b_md_dimension 24 = .ok (.aload_n 0, 1) := by decide +kernel
theorem d_md_dimension_25 : decode b_md_dimension 25 = .ok (.getfield 16, 3) := by decide +kernel
theorem d_md_dimension_28 : decode b_md_dimension 28 = .ok (.if_icmp .ge 20, 3) := by decide +kernel
theorem d_md_dimension_31 : decode b_md_dimension 31 = .ok (.iload 4, 2) := by decide +kernel
theorem d_md_dimension_33 : decode b_md_dimension 33 = .ok (.iload_n 2, 1) := by decide +kernel
theorem d_md_dimension_34 : decode b_md_dimension 34 = .ok (.iload 5, 2) := by decide +kernel
theorem d_md_dimension_36 : decode b_md_dimension 36 = .ok (.ishr, 1) := by decide +kernel
theorem d_md_dimension_37 : decode b_md_dimension 37 = .ok (.iconst 1, 1) := by decide +kernel
theorem d_md_dimension_38 : decode b_md_dimension 38 = .ok (.iand, 1) := by decide +kernel
theorem d_md_dimension_39 : decode b_md_dimension 39 = .ok (.iadd, 1) := by decide +kernel
theorem d_md_dimension_40 : decode b_md_dimension 40 = .ok (.istore 4, 2) := by decide +kernel
theorem d_md_dimension_42 : decode b_md_dimension 42 = .ok (.iinc 5 1, 3) := by decide +kernel
theorem d_md_dimension_45 : decode b_md_dimension 45 = .ok (.goto (-23), 3) := by decide +kernel
theorem d_md_dimension_48 : decode b_md_dimension 48 = .ok (.iconst 0, 1) := by decide +kernel
theorem d_md_dimension_49 : decode b_md_dimension 49 = .ok (.istore 5, 2) := by decide +kernel
theorem d_md_dimension_51 : decode b_md_dimension 51 = .ok (.iload 5, 2) := by decide +kernel
theorem d_md_dimension_53 : decode b_md_dimension 53 = .ok (.aload_n 0, 1) := by decide +kernel
theorem d_md_dimension_54 : decode b_md_dimension 54 = .ok (.getfield 61, 3) := by decide +kernel
theorem d_md_dimension_57 : decode b_md_dimension 57 = .ok (.if_icmp .ge 69, 3) := by decide +kernel
theorem d_md_dimension_60 : decode b_md_dimension 60 = .ok (.iconst 1, 1) := by decide +kernel
theorem d_md_dimension_61 : decode b_md_dimension 61 = .ok (.istore 6, 2) := by decide +kernel
theorem d_md_dimension_63 : decode b_md_dimension 63 = .ok (.iconst 0, 1) := by decide +kernel
theorem d_md_dimension_64 : decode b_md_dimension 64 = .ok (.istore 7, 2) := by decide +kernel
theorem d_md_dimension_66 : decode b_md_dimension 66 = .ok (.iload 7, 2) := by decide +kernel
theorem d_md_dimension_68 : decode b_md_dimension 68 = .ok (.aload_n 0, 1) := by decide +kernel
theorem d_md_dimension_69 : decode b_md_dimension 69 = .ok (.getfield 16, 3) := by decide +kernel
theorem d_md_dimension_72 : decode b_md_dimension 72 = .ok (.if_icmp .ge 41, 3) := by decide +kernel
theorem d_md_dimension_75 : decode b_md_dimension 75 = .ok (.aload_n 0, 1) := by decide +kernel
theorem d_md_dimension_76 : decode b_md_dimension 76 = .ok (.getfield 25, 3) := by decide +kernel
theorem d_md_dimension_79 : decode b_md_dimension 79 = .ok (.aload_n 0, 1) := by decide +kernel
theorem d_md_dimension_80 : decode b_md_dimension 80 = .ok (.getfield 58, 3) := by decide +kernel
theorem d_md_dimension_83 : decode b_md_dimension 83 = .ok (.iload 5, 2) := by decide +kernel
theorem d_md_dimension_85 : decode b_md_dimension 85 = .ok (.iaload, 1) := by decide +kernel
theorem d_md_dimension_86 : decode b_md_dimension 86 = .ok (.iaload, 1) := by decide +kernel
theorem d_md_dimension_87 : decode b_md_dimension 87 = .ok (.iload 7, 2) := by decide +kernel
theorem d_md_dimension_89 : decode b_md_dimension 89 = .ok (.invokestatic 71, 3) := by decide +kernel
theorem d_md_dimension_92 : decode b_md_dimension 92 = .ok (.ifCond .le 15, 3) := by decide +kernel
theorem d_md_dimension_95 : decode b_md_dimension 95 = .ok (.iload_n 2, 1) := by decide +kernel
theorem d_md_dimension_96 : decode b_md_dimension 96 = .ok (.iload 7, 2) := by decide +kernel
theorem d_md_dimension_98 : decode b_md_dimension 98 = .ok (.ishr, 1) := by decide +kernel
theorem d_md_dimension_99 : decode b_md_dimension 99 = .ok (.iconst 1, 1) := by decide +kernel
theorem d_md_dimension_100 : decode b_md_dimension 100 = .ok (.iand, 1) := by decide +kernel
theorem d_md_dimension_101 : decode b_md_dimension 101 = .ok (.ifCond .ne 6, 3) := by decide +kernel
theorem d_md_dimension_104 : decode b_md_dimension 104 = .ok (.iconst 0, 1) := by decide +kernel
theorem d_md_dimension_105 : decode b_md_dimension 105 = .ok (.istore 6, 2) := by decide +kernel
theorem d_md_dimension_107 : decode b_md_dimension 107 = .ok (.iinc 7 1, 3) := by decide +kernel
theorem d_md_dimension_110 : decode b_md_dimension 110 = .ok (.goto (-44), 3) := by decide +kernel
theorem d_md_dimension_113 : decode b_md_dimension 113 = .ok (.iload 6, 2) := by decide +kernel
theorem d_md_dimension_115 : decode b_md_dimension 115 = .ok (.ifCond .eq 5, 3) := by decide +kernel
theorem d_md_dimension_118 : decode b_md_dimension 118 = .ok (.iconst 0, 1) := by decide +kernel
theorem d_md_dimension_119 : decode b_md_dimension 119 = .ok (.istore_n 3, 1) := by decide +kernel
theorem d_md_dimension_120 : decode b_md_dimension 120 = .ok (.iinc 5 1, 3) := by decide +kernel
theorem d_md_dimension_123 : decode b_md_dimension 123 = .ok (.goto (-72), 3) := by decide +kernel
theorem d_md_dimension_126 : decode b_md_dimension 126 = .ok (.iload_n 3, 1) := by decide +kernel
theorem d_md_dimension_127 : decode b_md_dimension 127 = .ok (.ifCond .eq 12, 3) := by decide +kernel
theorem d_md_dimension_130 : decode b_md_dimension 130 = .ok (.iload 4, 2) := by decide +kernel
theorem d_md_dimension_132 : decode b_md_dimension 132 = .ok (.iload_n 1, 1) := by decide +kernel
theorem d_md_dimension_133 : decode b_md_dimension 133 = .ok (.if_icmp .le 6, 3) := by decide +kernel
theorem d_md_dimension_136 : decode b_md_dimension 136 = .ok (.iload 4, 2) := by decide +kernel
theorem d_md_dimension_138 : decode b_md_dimension 138 = .ok (.istore_n 1, 1) := by decide +kernel
theorem d_md_dimension_139 : decode b_md_dimension 139 = .ok (.iinc 2 1, 3) := by decide +kernel
theorem d_md_dimension_142 : decode b_md_dimension 142 = .ok (.goto (-138), 3) := by decide +kernel
theorem d_md_dimension_145 : decode b_md_dimension 145 = .ok (.iload_n 1, 1) := by decide +kernel
theorem d_md_dimension_146 : decode b_md_dimension 146 = .ok (.ireturn, 1) := by decide +kernel
/-- SpaceBasisModel.dimension()I -/
def vc_md_dimension (md_thrownCode : Int32) (md_p : Int32) (md_n : Int32) (md_order : Int32) (md_monomials : Int32) (md_generators : Int32) (md_found : Int32) (md_upTo : Int32) (md_members : Int32) (md_provedNow : Int32) (md_mono : Nat → Int32) (md_basis : Nat → Int32) (Q : Int32 → Prop) : Prop :=
  ∃ (I4_3 : Int32 → Int32 → Prop) (mu4_4 : Int32 → Int32 → Nat), I4_3 (-1) 0 ∧ ∀ (x1_1 : Int32) (x2_2 : Int32), I4_3 x1_1 x2_2 → (((((1 <<< (md_n &&& 31)) ≤ x2_2) → (Q x1_1)) ∧ ((¬ ((1 <<< (md_n &&& 31)) ≤ x2_2)) → (∃ (I22_8 : Int32 → Int32 → Prop) (mu22_9 : Int32 → Int32 → Nat), I22_8 0 0 ∧ ∀ (x4_6 : Int32) (x5_7 : Int32), I22_8 x4_6 x5_7 → ((((md_n ≤ x5_7) → (∃ (I51_13 : Int32 → Int32 → Prop) (mu51_14 : Int32 → Int32 → Nat), I51_13 1 0 ∧ ∀ (x3_11 : Int32) (x5_12 : Int32), I51_13 x3_11 x5_12 → ((((md_members ≤ x5_12) → ((((x3_11 = 0) → (∀ x2_17 : Int32, x2_17 = x2_2 + 1 → (I4_3 x1_1 x2_17 ∧ mu4_4 x1_1 x2_17 < mu4_4 x1_1 x2_2))) ∧ ((¬ (x3_11 = 0)) → ((((x4_6 ≤ x1_1) → (∀ x2_19 : Int32, x2_19 = x2_2 + 1 → (I4_3 x1_1 x2_19 ∧ mu4_4 x1_1 x2_19 < mu4_4 x1_1 x2_2))) ∧ ((¬ (x4_6 ≤ x1_1)) → (∀ x2_20 : Int32, x2_20 = x2_2 + 1 → (I4_3 x4_6 x2_20 ∧ mu4_4 x4_6 x2_20 < mu4_4 x1_1 x2_2))))))))) ∧ ((¬ (md_members ≤ x5_12)) → (∃ (I66_23 : Int32 → Int32 → Prop) (mu66_24 : Int32 → Int32 → Nat), I66_23 1 0 ∧ ∀ (x6_21 : Int32) (x7_22 : Int32), I66_23 x6_21 x7_22 → ((((md_n ≤ x7_22) → ((((x6_21 = 0) → (∀ x5_27 : Int32, x5_27 = x5_12 + 1 → (I51_13 x3_11 x5_27 ∧ mu51_14 x3_11 x5_27 < mu51_14 x3_11 x5_12))) ∧ ((¬ (x6_21 = 0)) → (∀ x5_28 : Int32, x5_28 = x5_12 + 1 → (I51_13 0 x5_28 ∧ mu51_14 0 x5_28 < mu51_14 x3_11 x5_12)))))) ∧ ((¬ (md_n ≤ x7_22)) → (vp_in x5_12 126 ∧ vp_in (md_basis x5_12.toNatClampNeg) 126 ∧ vc_md_exponent (md_mono ((md_basis x5_12.toNatClampNeg)).toNatClampNeg) x7_22 (fun (r_31 : Int32) => (((r_31 ≤ 0) → (∀ x7_33 : Int32, x7_33 = x7_22 + 1 → (I66_23 x6_21 x7_33 ∧ mu66_24 x6_21 x7_33 < mu66_24 x6_21 x7_22))) ∧ ((¬ (r_31 ≤ 0)) → ((((¬ (((x2_2 >>> (x7_22 &&& 31)) &&& 1) = 0)) → (∀ x7_35 : Int32, x7_35 = x7_22 + 1 → (I66_23 x6_21 x7_35 ∧ mu66_24 x6_21 x7_35 < mu66_24 x6_21 x7_22))) ∧ ((((x2_2 >>> (x7_22 &&& 31)) &&& 1) = 0) → (∀ x7_36 : Int32, x7_36 = x7_22 + 1 → (I66_23 0 x7_36 ∧ mu66_24 0 x7_36 < mu66_24 x6_21 x7_22)))))))))))))))))) ∧ ((¬ (md_n ≤ x5_7)) → (∀ x4_37 : Int32, x4_37 = (x4_6 + ((x2_2 >>> (x5_7 &&& 31)) &&& 1)) → ∀ x5_38 : Int32, x5_38 = x5_7 + 1 → (I22_8 x4_37 x5_38 ∧ mu22_9 x4_37 x5_38 < mu22_9 x4_6 x5_7)))))))))
abbrev at_md_dimension (dC : Nat → ClassId) (dI : Nat → Nat → Nat) (cs : Nat → ClassId) (A : Nat → Prop) (ad : Nat → Nat) (md_thrownCode : Int32) (md_p : Int32) (md_n : Int32) (md_order : Int32) (md_monomials : Int32) (md_generators : Int32) (md_found : Int32) (md_upTo : Int32) (md_members : Int32) (md_provedNow : Int32) (md_mono : Nat → Int32) (md_basis : Nat → Int32) (u : Unit) (t : State) : Prop := match u with
  | _ => va_P (dC, dI) vwCl [((ad 0), .inr (8, [.int md_thrownCode, .int md_p, .int md_n, .int md_order, .int md_monomials, .ref (ad 1), .ref (ad 2), .int md_generators, .ref (ad 3), .ref (ad 4), .int md_found, .int md_upTo, .ref (ad 5), .ref (ad 6), .ref (ad 7), .ref (ad 8), .int md_members, .int md_provedNow])), ((ad 1), .inl (cs 0, 126, .inl md_mono)), ((ad 8), .inl (cs 0, 126, .inl md_basis))] t.heap ∧ va_D A [((ad 0), .inr (8, [.int md_thrownCode, .int md_p, .int md_n, .int md_order, .int md_monomials, .ref (ad 1), .ref (ad 2), .int md_generators, .ref (ad 3), .ref (ad 4), .int md_found, .int md_upTo, .ref (ad 5), .ref (ad 6), .ref (ad 7), .ref (ad 8), .int md_members, .int md_provedNow])), ((ad 1), .inl (cs 0, 126, .inl md_mono)), ((ad 8), .inl (cs 0, 126, .inl md_basis))]
set_option maxHeartbeats 4000000 in
set_option maxRecDepth 100000 in
theorem c_md_dimension (l : Launch) (dC : Nat → ClassId) (dI : Nat → Nat → Nat) (cs : Nat → ClassId) (ad : Nat → Nat)  (sz : Nat) (md_thrownCode : Int32) (md_p : Int32) (md_n : Int32) (md_order : Int32) (md_monomials : Int32) (md_generators : Int32) (md_found : Int32) (md_upTo : Int32) (md_members : Int32) (md_provedNow : Int32) (md_mono : Nat → Int32) (md_basis : Nat → Int32) (Q : Int32 → Prop) (hv : vc_md_dimension md_thrownCode md_p md_n md_order md_monomials md_generators md_found md_upTo md_members md_provedNow md_mono md_basis Q) : Met l y_md_dimension w_md_dimension ({ frames := 1, cells := 0, slots := 0, locals := 21 }) (va_Pc [.ref (ad 0)] (fun U => U.heap.size = sz ∧ va_P (dC, dI) vwCl [((ad 0), .inr (8, [.int md_thrownCode, .int md_p, .int md_n, .int md_order, .int md_monomials, .ref (ad 1), .ref (ad 2), .int md_generators, .ref (ad 3), .ref (ad 4), .int md_found, .int md_upTo, .ref (ad 5), .ref (ad 6), .ref (ad 7), .ref (ad 8), .int md_members, .int md_provedNow])), ((ad 1), .inl (cs 0, 126, .inl md_mono)), ((ad 8), .inl (cs 0, 126, .inl md_basis))] U.heap ∧ vwK dC dI cs U ∧ va_D (fun _ => True) [((ad 0), .inr (8, [.int md_thrownCode, .int md_p, .int md_n, .int md_order, .int md_monomials, .ref (ad 1), .ref (ad 2), .int md_generators, .ref (ad 3), .ref (ad 4), .int md_found, .int md_upTo, .ref (ad 5), .ref (ad 6), .ref (ad 7), .ref (ad 8), .int md_members, .int md_provedNow])), ((ad 1), .inl (cs 0, 126, .inl md_mono)), ((ad 8), .inl (cs 0, 126, .inl md_basis))])) (va_Qi (fun (r : Int32) (u : Unit) => Q r) (at_md_dimension dC dI cs (va_A [((ad 0), .inr (8, [.int md_thrownCode, .int md_p, .int md_n, .int md_order, .int md_monomials, .ref (ad 1), .ref (ad 2), .int md_generators, .ref (ad 3), .ref (ad 4), .int md_found, .int md_upTo, .ref (ad 5), .ref (ad 6), .ref (ad 7), .ref (ad 8), .int md_members, .int md_provedNow])), ((ad 1), .inl (cs 0, 126, .inl md_mono)), ((ad 8), .inl (cs 0, 126, .inl md_basis))] sz) ad md_thrownCode md_p md_n md_order md_monomials md_generators md_found md_upTo md_members md_provedNow md_mono md_basis) (va_A [((ad 0), .inr (8, [.int md_thrownCode, .int md_p, .int md_n, .int md_order, .int md_monomials, .ref (ad 1), .ref (ad 2), .int md_generators, .ref (ad 3), .ref (ad 4), .int md_found, .int md_upTo, .ref (ad 5), .ref (ad 6), .ref (ad 7), .ref (ad 8), .int md_members, .int md_provedNow])), ((ad 1), .inl (cs 0, 126, .inl md_mono)), ((ad 8), .inl (cs 0, 126, .inl md_basis))] sz)) 0 0 (va_A [((ad 0), .inr (8, [.int md_thrownCode, .int md_p, .int md_n, .int md_order, .int md_monomials, .ref (ad 1), .ref (ad 2), .int md_generators, .ref (ad 3), .ref (ad 4), .int md_found, .int md_upTo, .ref (ad 5), .ref (ad 6), .ref (ad 7), .ref (ad 8), .int md_members, .int md_provedNow])), ((ad 1), .inl (cs 0, 126, .inl md_mono)), ((ad 8), .inl (cs 0, 126, .inl md_basis))] sz) := by
  unfold vc_md_dimension at hv
  refine Met.ofW (cc := b_md_dimension) (maxL := 8) (ret := (some .int)) (by decide) rfl ?_
  intro p e s m args below meth c s₁ B hml hpc
  obtain ⟨rfl, hsz, hP, ⟨hK, hN⟩, hD0⟩ := hpc
  have hx := B.exec
  have hb := B.bytes
  have hr := B.returns
  have hts : ∀ w ∈ vwWS, w.before _ s = true := fun w h => atoms_spec (ws := w_md_dimension) B.pre w (List.mem_cons_of_mem _ h)
  have hown : s.vm.findClass "SpaceBasisModel" = some m.cls := findClass_of_methodNamed B.named
  have hlocks := B.notSynchronized
  subst hsz
  have hD := hD0.self (sz := s.heap.size)
  generalize hAe : va_A [((ad 0), .inr (8, [.int md_thrownCode, .int md_p, .int md_n, .int md_order, .int md_monomials, .ref (ad 1), .ref (ad 2), .int md_generators, .ref (ad 3), .ref (ad 4), .int md_found, .int md_upTo, .ref (ad 5), .ref (ad 6), .ref (ad 7), .ref (ad 8), .int md_members, .int md_provedNow])), ((ad 1), .inl (cs 0, 126, .inl md_mono)), ((ad 8), .inl (cs 0, 126, .inl md_basis))] s.heap.size = A at hD ⊢
  have hA : ∀ q : Nat, s.heap.size ≤ q → A q := fun q h => by rw [← hAe]; exact Or.inr h
  have hS : va_S A s.heap s.heap [] := va_S.rf
  have hl := lv_entry ([.ref (ad 0)]) (n := 8) (Nat.le_of_ble_eq_true rfl)
  rw [lg_entry_eq]
  generalize (lg_sl ([.ref (ad 0)]) ++ List.replicate (8 - (lg_sl ([.ref (ad 0)])).length) Slot.unset).toArray = ls at hl ⊢
  have hl : lv_has ls 8 [(0, .ref (ad 0))] := hl
  refine lv_iconst (v := (-1)) hx hb d_md_dimension_0 (by decide) ?_
  refine lv_istore_n (lv' := [(1, .int (-1)), (0, .ref (ad 0))]) hx hb d_md_dimension_1 rfl hl (by decide) rfl (fun ls hl => ?_)
  refine lv_iconst (v := 0) hx hb d_md_dimension_2 (by decide) ?_
  refine lv_istore_n (lv' := [(2, .int 0), (1, .int (-1)), (0, .ref (ad 0))]) hx hb d_md_dimension_3 rfl hl (by decide) rfl (fun ls hl => ?_)
  obtain ⟨I4_3, mu4_4, hi0, hv⟩ := hv
  have hP := hP.sub (ws' := [((ad 0), .inr (8, [.int md_thrownCode, .int md_p, .int md_n, .int md_order, .int md_monomials, .ref (ad 1), .ref (ad 2), .int md_generators, .ref (ad 3), .ref (ad 4), .int md_found, .int md_upTo, .ref (ad 5), .ref (ad 6), .ref (ad 7), .ref (ad 8), .int md_members, .int md_provedNow])), ((ad 1), .inl (cs 0, 126, .inl md_mono)), ((ad 8), .inl (cs 0, 126, .inl md_basis))]) [0, 1, 2] rfl
  have hD := hD.sub (ws' := [((ad 0), .inr (8, [.int md_thrownCode, .int md_p, .int md_n, .int md_order, .int md_monomials, .ref (ad 1), .ref (ad 2), .int md_generators, .ref (ad 3), .ref (ad 4), .int md_found, .int md_upTo, .ref (ad 5), .ref (ad 6), .ref (ad 7), .ref (ad 8), .int md_members, .int md_provedNow])), ((ad 1), .inl (cs 0, 126, .inl md_mono)), ((ad 8), .inl (cs 0, 126, .inl md_basis))]) [0, 1, 2] (by decide) rfl
  have hl := lv_sub (l' := [(0, .ref (ad 0)), (1, .int (-1)), (2, .int 0)]) hl [2, 1, 0] rfl
  have loop4 : ∀ (nn : Nat) (x1_1 : Int32) (x2_2 : Int32), mu4_4 x1_1 x2_2 < nn → I4_3 x1_1 x2_2 → ∀ (H : Heap) (locs : List Loc) (ls : Array Slot), va_P (dC, dI) vwCl [((ad 0), .inr (8, [.int md_thrownCode, .int md_p, .int md_n, .int md_order, .int md_monomials, .ref (ad 1), .ref (ad 2), .int md_generators, .ref (ad 3), .ref (ad 4), .int md_found, .int md_upTo, .ref (ad 5), .ref (ad 6), .ref (ad 7), .ref (ad 8), .int md_members, .int md_provedNow])), ((ad 1), .inl (cs 0, 126, .inl md_mono)), ((ad 8), .inl (cs 0, 126, .inl md_basis))] H → va_D A [((ad 0), .inr (8, [.int md_thrownCode, .int md_p, .int md_n, .int md_order, .int md_monomials, .ref (ad 1), .ref (ad 2), .int md_generators, .ref (ad 3), .ref (ad 4), .int md_found, .int md_upTo, .ref (ad 5), .ref (ad 6), .ref (ad 7), .ref (ad 8), .int md_members, .int md_provedNow])), ((ad 1), .inl (cs 0, 126, .inl md_mono)), ((ad 8), .inl (cs 0, 126, .inl md_basis))] → va_S A s.heap H locs → lv_has ls 8 [(0, .ref (ad 0)), (1, .int x1_1), (2, .int x2_2)] → W p l e (headSpec w_md_dimension { frames := 1, cells := 0, slots := 0, locals := 21 }).room s m ([.ref (ad 0)] : List Value).toArray below meth c H locs 0 0 (MQ below (va_Qi (fun (r : Int32) (u : Unit) => Q r) (at_md_dimension dC dI cs A ad md_thrownCode md_p md_n md_order md_monomials md_generators md_found md_upTo md_members md_provedNow md_mono md_basis) A) ([.ref (ad 0)] : List Value).toArray s 0 0 A) (F0 m 4 ls []) := by
    intro nn
    induction nn with
    | zero => intro x1_1 x2_2 hlt; exact absurd hlt (Nat.not_lt_zero _)
    | succ nn ih4 =>
      intro x1_1 x2_2 hlt4 hI H locs ls hP hD hS hl
      have hv := hv x1_1 x2_2 hI
      refine lv_iload_n hx hb d_md_dimension_4 rfl (lv_at hl 2 rfl) ?_
      refine lv_iconst (v := 1) hx hb d_md_dimension_5 (by decide) ?_
      refine lv_aload_n hx hb d_md_dimension_6 rfl (lv_at hl 0 rfl) ?_
      refine va_get (D := (dC, dI)) (ci := 8) (v := .int md_n) (C := R_md) (T := F_md) (N := 18) hx hb hts in_md hown hK hP 0 rfl rfl 2 (by decide) (hts _ kw_620) (fun _ h9 => h9) rfl d_md_dimension_7 ?_
      refine lv_ishl hx hb d_md_dimension_10 ?_
      refine lv_icmp_ge (tgt := 145) hx hb d_md_dimension_11 (by decide) (fun c_5 => ?_) (fun c_5 => ?_)
      · have hv := hv.1 c_5
        refine lv_iload_n hx hb d_md_dimension_145 rfl (lv_at hl 1 rfl) ?_
        have hP9 := hP.sub (ws' := [((ad 0), .inr (8, [.int md_thrownCode, .int md_p, .int md_n, .int md_order, .int md_monomials, .ref (ad 1), .ref (ad 2), .int md_generators, .ref (ad 3), .ref (ad 4), .int md_found, .int md_upTo, .ref (ad 5), .ref (ad 6), .ref (ad 7), .ref (ad 8), .int md_members, .int md_provedNow])), ((ad 1), .inl (cs 0, 126, .inl md_mono)), ((ad 8), .inl (cs 0, 126, .inl md_basis))]) [0, 1, 2] rfl
        have hD9 := hD.sub (ws' := [((ad 0), .inr (8, [.int md_thrownCode, .int md_p, .int md_n, .int md_order, .int md_monomials, .ref (ad 1), .ref (ad 2), .int md_generators, .ref (ad 3), .ref (ad 4), .int md_found, .int md_upTo, .ref (ad 5), .ref (ad 6), .ref (ad 7), .ref (ad 8), .int md_members, .int md_provedNow])), ((ad 1), .inl (cs 0, 126, .inl md_mono)), ((ad 8), .inl (cs 0, 126, .inl md_basis))]) [0, 1, 2] (by decide) rfl
        exact W.iret (v := x1_1) hx hb hr (fun t ht hW => ⟨⟨x1_1, (), rfl, hv, by rw [ht]; exact hP9, hD9⟩, hS.F ht⟩) hS.2.2 d_md_dimension_146
      · have hv := hv.2 c_5
        refine lv_iconst (v := 1) hx hb d_md_dimension_14 (by decide) ?_
        refine lv_istore_n (lv' := [(3, .int 1), (0, .ref (ad 0)), (1, .int x1_1), (2, .int x2_2)]) hx hb d_md_dimension_15 rfl hl (by decide) rfl (fun ls hl => ?_)
        refine lv_iconst (v := 0) hx hb d_md_dimension_16 (by decide) ?_
        refine lv_istore (lv' := [(4, .int 0), (3, .int 1), (0, .ref (ad 0)), (1, .int x1_1), (2, .int x2_2)]) hx hb d_md_dimension_17 hl (by decide) rfl (fun ls hl => ?_)
        refine lv_iconst (v := 0) hx hb d_md_dimension_19 (by decide) ?_
        refine lv_istore (lv' := [(5, .int 0), (4, .int 0), (3, .int 1), (0, .ref (ad 0)), (1, .int x1_1), (2, .int x2_2)]) hx hb d_md_dimension_20 hl (by decide) rfl (fun ls hl => ?_)
        obtain ⟨I22_8, mu22_9, hi0, hv⟩ := hv
        have hP := hP.sub (ws' := [((ad 0), .inr (8, [.int md_thrownCode, .int md_p, .int md_n, .int md_order, .int md_monomials, .ref (ad 1), .ref (ad 2), .int md_generators, .ref (ad 3), .ref (ad 4), .int md_found, .int md_upTo, .ref (ad 5), .ref (ad 6), .ref (ad 7), .ref (ad 8), .int md_members, .int md_provedNow])), ((ad 1), .inl (cs 0, 126, .inl md_mono)), ((ad 8), .inl (cs 0, 126, .inl md_basis))]) [0, 1, 2] rfl
        have hD := hD.sub (ws' := [((ad 0), .inr (8, [.int md_thrownCode, .int md_p, .int md_n, .int md_order, .int md_monomials, .ref (ad 1), .ref (ad 2), .int md_generators, .ref (ad 3), .ref (ad 4), .int md_found, .int md_upTo, .ref (ad 5), .ref (ad 6), .ref (ad 7), .ref (ad 8), .int md_members, .int md_provedNow])), ((ad 1), .inl (cs 0, 126, .inl md_mono)), ((ad 8), .inl (cs 0, 126, .inl md_basis))]) [0, 1, 2] (by decide) rfl
        have hl := lv_sub (l' := [(0, .ref (ad 0)), (1, .int x1_1), (2, .int x2_2), (3, .int 1), (4, .int 0), (5, .int 0)]) hl [3, 4, 5, 2, 1, 0] rfl
        have loop22 : ∀ (nn : Nat) (x4_6 : Int32) (x5_7 : Int32), mu22_9 x4_6 x5_7 < nn → I22_8 x4_6 x5_7 → ∀ (H : Heap) (locs : List Loc) (ls : Array Slot), va_P (dC, dI) vwCl [((ad 0), .inr (8, [.int md_thrownCode, .int md_p, .int md_n, .int md_order, .int md_monomials, .ref (ad 1), .ref (ad 2), .int md_generators, .ref (ad 3), .ref (ad 4), .int md_found, .int md_upTo, .ref (ad 5), .ref (ad 6), .ref (ad 7), .ref (ad 8), .int md_members, .int md_provedNow])), ((ad 1), .inl (cs 0, 126, .inl md_mono)), ((ad 8), .inl (cs 0, 126, .inl md_basis))] H → va_D A [((ad 0), .inr (8, [.int md_thrownCode, .int md_p, .int md_n, .int md_order, .int md_monomials, .ref (ad 1), .ref (ad 2), .int md_generators, .ref (ad 3), .ref (ad 4), .int md_found, .int md_upTo, .ref (ad 5), .ref (ad 6), .ref (ad 7), .ref (ad 8), .int md_members, .int md_provedNow])), ((ad 1), .inl (cs 0, 126, .inl md_mono)), ((ad 8), .inl (cs 0, 126, .inl md_basis))] → va_S A s.heap H locs → lv_has ls 8 [(0, .ref (ad 0)), (1, .int x1_1), (2, .int x2_2), (3, .int 1), (4, .int x4_6), (5, .int x5_7)] → W p l e (headSpec w_md_dimension { frames := 1, cells := 0, slots := 0, locals := 21 }).room s m ([.ref (ad 0)] : List Value).toArray below meth c H locs 0 0 (MQ below (va_Qi (fun (r : Int32) (u : Unit) => Q r) (at_md_dimension dC dI cs A ad md_thrownCode md_p md_n md_order md_monomials md_generators md_found md_upTo md_members md_provedNow md_mono md_basis) A) ([.ref (ad 0)] : List Value).toArray s 0 0 A) (F0 m 22 ls []) := by
          intro nn
          induction nn with
          | zero => intro x4_6 x5_7 hlt; exact absurd hlt (Nat.not_lt_zero _)
          | succ nn ih22 =>
            intro x4_6 x5_7 hlt22 hI H locs ls hP hD hS hl
            have hv := hv x4_6 x5_7 hI
            refine lv_iload hx hb d_md_dimension_22 (lv_at hl 5 rfl) ?_
            refine lv_aload_n hx hb d_md_dimension_24 rfl (lv_at hl 0 rfl) ?_
            refine va_get (D := (dC, dI)) (ci := 8) (v := .int md_n) (C := R_md) (T := F_md) (N := 18) hx hb hts in_md hown hK hP 0 rfl rfl 2 (by decide) (hts _ kw_620) (fun _ h9 => h9) rfl d_md_dimension_25 ?_
            refine lv_icmp_ge (tgt := 48) hx hb d_md_dimension_28 (by decide) (fun c_10 => ?_) (fun c_10 => ?_)
            · have hv := hv.1 c_10
              refine lv_iconst (v := 0) hx hb d_md_dimension_48 (by decide) ?_
              refine lv_istore (lv' := [(5, .int 0), (0, .ref (ad 0)), (1, .int x1_1), (2, .int x2_2), (3, .int 1), (4, .int x4_6)]) hx hb d_md_dimension_49 hl (by decide) rfl (fun ls hl => ?_)
              obtain ⟨I51_13, mu51_14, hi0, hv⟩ := hv
              have hP := hP.sub (ws' := [((ad 0), .inr (8, [.int md_thrownCode, .int md_p, .int md_n, .int md_order, .int md_monomials, .ref (ad 1), .ref (ad 2), .int md_generators, .ref (ad 3), .ref (ad 4), .int md_found, .int md_upTo, .ref (ad 5), .ref (ad 6), .ref (ad 7), .ref (ad 8), .int md_members, .int md_provedNow])), ((ad 1), .inl (cs 0, 126, .inl md_mono)), ((ad 8), .inl (cs 0, 126, .inl md_basis))]) [0, 1, 2] rfl
              have hD := hD.sub (ws' := [((ad 0), .inr (8, [.int md_thrownCode, .int md_p, .int md_n, .int md_order, .int md_monomials, .ref (ad 1), .ref (ad 2), .int md_generators, .ref (ad 3), .ref (ad 4), .int md_found, .int md_upTo, .ref (ad 5), .ref (ad 6), .ref (ad 7), .ref (ad 8), .int md_members, .int md_provedNow])), ((ad 1), .inl (cs 0, 126, .inl md_mono)), ((ad 8), .inl (cs 0, 126, .inl md_basis))]) [0, 1, 2] (by decide) rfl
              have hl := lv_sub (l' := [(0, .ref (ad 0)), (1, .int x1_1), (2, .int x2_2), (3, .int 1), (4, .int x4_6), (5, .int 0)]) hl [1, 2, 3, 4, 5, 0] rfl
              have loop51 : ∀ (nn : Nat) (x3_11 : Int32) (x5_12 : Int32), mu51_14 x3_11 x5_12 < nn → I51_13 x3_11 x5_12 → ∀ (H : Heap) (locs : List Loc) (ls : Array Slot), va_P (dC, dI) vwCl [((ad 0), .inr (8, [.int md_thrownCode, .int md_p, .int md_n, .int md_order, .int md_monomials, .ref (ad 1), .ref (ad 2), .int md_generators, .ref (ad 3), .ref (ad 4), .int md_found, .int md_upTo, .ref (ad 5), .ref (ad 6), .ref (ad 7), .ref (ad 8), .int md_members, .int md_provedNow])), ((ad 1), .inl (cs 0, 126, .inl md_mono)), ((ad 8), .inl (cs 0, 126, .inl md_basis))] H → va_D A [((ad 0), .inr (8, [.int md_thrownCode, .int md_p, .int md_n, .int md_order, .int md_monomials, .ref (ad 1), .ref (ad 2), .int md_generators, .ref (ad 3), .ref (ad 4), .int md_found, .int md_upTo, .ref (ad 5), .ref (ad 6), .ref (ad 7), .ref (ad 8), .int md_members, .int md_provedNow])), ((ad 1), .inl (cs 0, 126, .inl md_mono)), ((ad 8), .inl (cs 0, 126, .inl md_basis))] → va_S A s.heap H locs → lv_has ls 8 [(0, .ref (ad 0)), (1, .int x1_1), (2, .int x2_2), (3, .int x3_11), (4, .int x4_6), (5, .int x5_12)] → W p l e (headSpec w_md_dimension { frames := 1, cells := 0, slots := 0, locals := 21 }).room s m ([.ref (ad 0)] : List Value).toArray below meth c H locs 0 0 (MQ below (va_Qi (fun (r : Int32) (u : Unit) => Q r) (at_md_dimension dC dI cs A ad md_thrownCode md_p md_n md_order md_monomials md_generators md_found md_upTo md_members md_provedNow md_mono md_basis) A) ([.ref (ad 0)] : List Value).toArray s 0 0 A) (F0 m 51 ls []) := by
                intro nn
                induction nn with
                | zero => intro x3_11 x5_12 hlt; exact absurd hlt (Nat.not_lt_zero _)
                | succ nn ih51 =>
                  intro x3_11 x5_12 hlt51 hI H locs ls hP hD hS hl
                  have hv := hv x3_11 x5_12 hI
                  refine lv_iload hx hb d_md_dimension_51 (lv_at hl 5 rfl) ?_
                  refine lv_aload_n hx hb d_md_dimension_53 rfl (lv_at hl 0 rfl) ?_
                  refine va_get (D := (dC, dI)) (ci := 8) (v := .int md_members) (C := R_md) (T := F_md) (N := 18) hx hb hts in_md hown hK hP 0 rfl rfl 16 (by decide) (hts _ kw_634) (fun _ h9 => h9) rfl d_md_dimension_54 ?_
                  refine lv_icmp_ge (tgt := 126) hx hb d_md_dimension_57 (by decide) (fun c_15 => ?_) (fun c_15 => ?_)
                  · have hv := hv.1 c_15
                    refine lv_iload_n hx hb d_md_dimension_126 rfl (lv_at hl 3 rfl) ?_
                    refine lv_if_eq (tgt := 139) hx hb d_md_dimension_127 (by decide) (fun c_16 => ?_) (fun c_16 => ?_)
                    · have hv := hv.1 c_16
                      obtain ⟨x2_17, ex2_17⟩ : ∃ y : Int32, y = x2_2 + 1 := ⟨_, rfl⟩
                      have hv := hv x2_17 ex2_17
                      refine lv_iinc (v := x2_17) (lv' := [(2, .int x2_17), (0, .ref (ad 0)), (1, .int x1_1), (3, .int x3_11), (4, .int x4_6), (5, .int x5_12)]) hx hb d_md_dimension_139 hl (k := 2) rfl (by rw [ex2_17]; rfl) (by decide) rfl (fun ls hl => ?_)
                      refine lv_goto (tgt := 4) hx hb d_md_dimension_142 (by decide) ?_
                      exact ih4 x1_1 x2_17 (Nat.lt_of_lt_of_le hv.2 (Nat.le_of_lt_succ hlt4)) hv.1 _ _ _ (hP.sub [0, 1, 2] rfl) (hD.sub [0, 1, 2] (by decide) rfl) hS (lv_sub hl [1, 2, 0] rfl)
                    · have hv := hv.2 c_16
                      refine lv_iload hx hb d_md_dimension_130 (lv_at hl 4 rfl) ?_
                      refine lv_iload_n hx hb d_md_dimension_132 rfl (lv_at hl 1 rfl) ?_
                      refine lv_icmp_le (tgt := 139) hx hb d_md_dimension_133 (by decide) (fun c_18 => ?_) (fun c_18 => ?_)
                      · have hv := hv.1 c_18
                        obtain ⟨x2_19, ex2_19⟩ : ∃ y : Int32, y = x2_2 + 1 := ⟨_, rfl⟩
                        have hv := hv x2_19 ex2_19
                        refine lv_iinc (v := x2_19) (lv' := [(2, .int x2_19), (0, .ref (ad 0)), (1, .int x1_1), (3, .int x3_11), (4, .int x4_6), (5, .int x5_12)]) hx hb d_md_dimension_139 hl (k := 2) rfl (by rw [ex2_19]; rfl) (by decide) rfl (fun ls hl => ?_)
                        refine lv_goto (tgt := 4) hx hb d_md_dimension_142 (by decide) ?_
                        exact ih4 x1_1 x2_19 (Nat.lt_of_lt_of_le hv.2 (Nat.le_of_lt_succ hlt4)) hv.1 _ _ _ (hP.sub [0, 1, 2] rfl) (hD.sub [0, 1, 2] (by decide) rfl) hS (lv_sub hl [1, 2, 0] rfl)
                      · have hv := hv.2 c_18
                        refine lv_iload hx hb d_md_dimension_136 (lv_at hl 4 rfl) ?_
                        refine lv_istore_n (lv' := [(1, .int x4_6), (0, .ref (ad 0)), (2, .int x2_2), (3, .int x3_11), (4, .int x4_6), (5, .int x5_12)]) hx hb d_md_dimension_138 rfl hl (by decide) rfl (fun ls hl => ?_)
                        obtain ⟨x2_20, ex2_20⟩ : ∃ y : Int32, y = x2_2 + 1 := ⟨_, rfl⟩
                        have hv := hv x2_20 ex2_20
                        refine lv_iinc (v := x2_20) (lv' := [(2, .int x2_20), (1, .int x4_6), (0, .ref (ad 0)), (3, .int x3_11), (4, .int x4_6), (5, .int x5_12)]) hx hb d_md_dimension_139 hl (k := 2) rfl (by rw [ex2_20]; rfl) (by decide) rfl (fun ls hl => ?_)
                        refine lv_goto (tgt := 4) hx hb d_md_dimension_142 (by decide) ?_
                        exact ih4 x4_6 x2_20 (Nat.lt_of_lt_of_le hv.2 (Nat.le_of_lt_succ hlt4)) hv.1 _ _ _ (hP.sub [0, 1, 2] rfl) (hD.sub [0, 1, 2] (by decide) rfl) hS (lv_sub hl [2, 1, 0] rfl)
                  · have hv := hv.2 c_15
                    refine lv_iconst (v := 1) hx hb d_md_dimension_60 (by decide) ?_
                    refine lv_istore (lv' := [(6, .int 1), (0, .ref (ad 0)), (1, .int x1_1), (2, .int x2_2), (3, .int x3_11), (4, .int x4_6), (5, .int x5_12)]) hx hb d_md_dimension_61 hl (by decide) rfl (fun ls hl => ?_)
                    refine lv_iconst (v := 0) hx hb d_md_dimension_63 (by decide) ?_
                    refine lv_istore (lv' := [(7, .int 0), (6, .int 1), (0, .ref (ad 0)), (1, .int x1_1), (2, .int x2_2), (3, .int x3_11), (4, .int x4_6), (5, .int x5_12)]) hx hb d_md_dimension_64 hl (by decide) rfl (fun ls hl => ?_)
                    obtain ⟨I66_23, mu66_24, hi0, hv⟩ := hv
                    have hP := hP.sub (ws' := [((ad 0), .inr (8, [.int md_thrownCode, .int md_p, .int md_n, .int md_order, .int md_monomials, .ref (ad 1), .ref (ad 2), .int md_generators, .ref (ad 3), .ref (ad 4), .int md_found, .int md_upTo, .ref (ad 5), .ref (ad 6), .ref (ad 7), .ref (ad 8), .int md_members, .int md_provedNow])), ((ad 1), .inl (cs 0, 126, .inl md_mono)), ((ad 8), .inl (cs 0, 126, .inl md_basis))]) [0, 1, 2] rfl
                    have hD := hD.sub (ws' := [((ad 0), .inr (8, [.int md_thrownCode, .int md_p, .int md_n, .int md_order, .int md_monomials, .ref (ad 1), .ref (ad 2), .int md_generators, .ref (ad 3), .ref (ad 4), .int md_found, .int md_upTo, .ref (ad 5), .ref (ad 6), .ref (ad 7), .ref (ad 8), .int md_members, .int md_provedNow])), ((ad 1), .inl (cs 0, 126, .inl md_mono)), ((ad 8), .inl (cs 0, 126, .inl md_basis))]) [0, 1, 2] (by decide) rfl
                    have hl := lv_sub (l' := [(0, .ref (ad 0)), (1, .int x1_1), (2, .int x2_2), (3, .int x3_11), (4, .int x4_6), (5, .int x5_12), (6, .int 1), (7, .int 0)]) hl [2, 3, 4, 5, 6, 7, 1, 0] rfl
                    have loop66 : ∀ (nn : Nat) (x6_21 : Int32) (x7_22 : Int32), mu66_24 x6_21 x7_22 < nn → I66_23 x6_21 x7_22 → ∀ (H : Heap) (locs : List Loc) (ls : Array Slot), va_P (dC, dI) vwCl [((ad 0), .inr (8, [.int md_thrownCode, .int md_p, .int md_n, .int md_order, .int md_monomials, .ref (ad 1), .ref (ad 2), .int md_generators, .ref (ad 3), .ref (ad 4), .int md_found, .int md_upTo, .ref (ad 5), .ref (ad 6), .ref (ad 7), .ref (ad 8), .int md_members, .int md_provedNow])), ((ad 1), .inl (cs 0, 126, .inl md_mono)), ((ad 8), .inl (cs 0, 126, .inl md_basis))] H → va_D A [((ad 0), .inr (8, [.int md_thrownCode, .int md_p, .int md_n, .int md_order, .int md_monomials, .ref (ad 1), .ref (ad 2), .int md_generators, .ref (ad 3), .ref (ad 4), .int md_found, .int md_upTo, .ref (ad 5), .ref (ad 6), .ref (ad 7), .ref (ad 8), .int md_members, .int md_provedNow])), ((ad 1), .inl (cs 0, 126, .inl md_mono)), ((ad 8), .inl (cs 0, 126, .inl md_basis))] → va_S A s.heap H locs → lv_has ls 8 [(0, .ref (ad 0)), (1, .int x1_1), (2, .int x2_2), (3, .int x3_11), (4, .int x4_6), (5, .int x5_12), (6, .int x6_21), (7, .int x7_22)] → W p l e (headSpec w_md_dimension { frames := 1, cells := 0, slots := 0, locals := 21 }).room s m ([.ref (ad 0)] : List Value).toArray below meth c H locs 0 0 (MQ below (va_Qi (fun (r : Int32) (u : Unit) => Q r) (at_md_dimension dC dI cs A ad md_thrownCode md_p md_n md_order md_monomials md_generators md_found md_upTo md_members md_provedNow md_mono md_basis) A) ([.ref (ad 0)] : List Value).toArray s 0 0 A) (F0 m 66 ls []) := by
                      intro nn
                      induction nn with
                      | zero => intro x6_21 x7_22 hlt; exact absurd hlt (Nat.not_lt_zero _)
                      | succ nn ih66 =>
                        intro x6_21 x7_22 hlt66 hI H locs ls hP hD hS hl
                        have hv := hv x6_21 x7_22 hI
                        refine lv_iload hx hb d_md_dimension_66 (lv_at hl 7 rfl) ?_
                        refine lv_aload_n hx hb d_md_dimension_68 rfl (lv_at hl 0 rfl) ?_
                        refine va_get (D := (dC, dI)) (ci := 8) (v := .int md_n) (C := R_md) (T := F_md) (N := 18) hx hb hts in_md hown hK hP 0 rfl rfl 2 (by decide) (hts _ kw_620) (fun _ h9 => h9) rfl d_md_dimension_69 ?_
                        refine lv_icmp_ge (tgt := 113) hx hb d_md_dimension_72 (by decide) (fun c_25 => ?_) (fun c_25 => ?_)
                        · have hv := hv.1 c_25
                          refine lv_iload hx hb d_md_dimension_113 (lv_at hl 6 rfl) ?_
                          refine lv_if_eq (tgt := 120) hx hb d_md_dimension_115 (by decide) (fun c_26 => ?_) (fun c_26 => ?_)
                          · have hv := hv.1 c_26
                            obtain ⟨x5_27, ex5_27⟩ : ∃ y : Int32, y = x5_12 + 1 := ⟨_, rfl⟩
                            have hv := hv x5_27 ex5_27
                            refine lv_iinc (v := x5_27) (lv' := [(5, .int x5_27), (0, .ref (ad 0)), (1, .int x1_1), (2, .int x2_2), (3, .int x3_11), (4, .int x4_6), (6, .int x6_21), (7, .int x7_22)]) hx hb d_md_dimension_120 hl (k := 5) rfl (by rw [ex5_27]; rfl) (by decide) rfl (fun ls hl => ?_)
                            refine lv_goto (tgt := 51) hx hb d_md_dimension_123 (by decide) ?_
                            exact ih51 x3_11 x5_27 (Nat.lt_of_lt_of_le hv.2 (Nat.le_of_lt_succ hlt51)) hv.1 _ _ _ (hP.sub [0, 1, 2] rfl) (hD.sub [0, 1, 2] (by decide) rfl) hS (lv_sub hl [1, 2, 3, 4, 5, 0] rfl)
                          · have hv := hv.2 c_26
                            refine lv_iconst (v := 0) hx hb d_md_dimension_118 (by decide) ?_
                            refine lv_istore_n (lv' := [(3, .int 0), (0, .ref (ad 0)), (1, .int x1_1), (2, .int x2_2), (4, .int x4_6), (5, .int x5_12), (6, .int x6_21), (7, .int x7_22)]) hx hb d_md_dimension_119 rfl hl (by decide) rfl (fun ls hl => ?_)
                            obtain ⟨x5_28, ex5_28⟩ : ∃ y : Int32, y = x5_12 + 1 := ⟨_, rfl⟩
                            have hv := hv x5_28 ex5_28
                            refine lv_iinc (v := x5_28) (lv' := [(5, .int x5_28), (3, .int 0), (0, .ref (ad 0)), (1, .int x1_1), (2, .int x2_2), (4, .int x4_6), (6, .int x6_21), (7, .int x7_22)]) hx hb d_md_dimension_120 hl (k := 5) rfl (by rw [ex5_28]; rfl) (by decide) rfl (fun ls hl => ?_)
                            refine lv_goto (tgt := 51) hx hb d_md_dimension_123 (by decide) ?_
                            exact ih51 0 x5_28 (Nat.lt_of_lt_of_le hv.2 (Nat.le_of_lt_succ hlt51)) hv.1 _ _ _ (hP.sub [0, 1, 2] rfl) (hD.sub [0, 1, 2] (by decide) rfl) hS (lv_sub hl [2, 3, 4, 1, 5, 0] rfl)
                        · have hv := hv.2 c_25
                          refine lv_aload_n hx hb d_md_dimension_75 rfl (lv_at hl 0 rfl) ?_
                          refine va_get (D := (dC, dI)) (ci := 8) (v := .ref (ad 1)) (C := R_md) (T := F_md) (N := 18) hx hb hts in_md hown hK hP 0 rfl rfl 5 (by decide) (hts _ kw_623) (fun _ h9 => h9) rfl d_md_dimension_76 ?_
                          refine lv_aload_n hx hb d_md_dimension_79 rfl (lv_at hl 0 rfl) ?_
                          refine va_get (D := (dC, dI)) (ci := 8) (v := .ref (ad 8)) (C := R_md) (T := F_md) (N := 18) hx hb hts in_md hown hK hP 0 rfl rfl 15 (by decide) (hts _ kw_633) (fun _ h9 => h9) rfl d_md_dimension_80 ?_
                          refine lv_iload hx hb d_md_dimension_83 (lv_at hl 5 rfl) ?_
                          obtain ⟨hi_29, hv⟩ := hv
                          refine va_iald hx hb hK hP 2 0 rfl rfl hi_29 d_md_dimension_85 ?_
                          obtain ⟨hi_30, hv⟩ := hv
                          refine va_iald hx hb hK hP 1 0 rfl rfl hi_30 d_md_dimension_86 ?_
                          refine lv_iload hx hb d_md_dimension_87 (lv_at hl 7 rfl) ?_
                          have hPc := hP.sub (ws' := []) [] rfl
                          have hDc := hD.sub (ws' := []) [] (by decide) rfl
                          have hFc := va_free (wc := []) hD hS hA [] rfl
                          refine va_calli (va_runS (As := [.int (md_mono ((md_basis x5_12.toNatClampNeg)).toNatClampNeg), .int x7_22]) (rest := []) ⟨hx, hb, hml, hown, hts⟩ (c_md_exponent l dC dI cs ad  H.size (md_mono ((md_basis x5_12.toNatClampNeg)).toNatClampNeg) x7_22 _ hv) (va_cwS 2 hts (gd_S kw_615 kw_616 kw_41 kw_617) rfl rfl rfl (by decide +kernel) ⟨Nat.le_of_ble_eq_true rfl, Nat.le_of_ble_eq_true rfl⟩) ⟨fun a U g mk q => by obtain ⟨q0, q1, qP, qK, qD⟩ := q; exact ⟨q0, q1, qP, qK.call, qD⟩, fun U hU hW => ⟨rfl, by rw [hU], by rw [hU]; exact hPc, vwK.warm hW ⟨hK, hN⟩, hDc.weaken (fun _ _ _ _ => trivial)⟩⟩ rfl rfl hl.1 rfl (lv_room (Nat.le_of_ble_eq_true rfl)) d_md_dimension_89 ⟨Nat.zero_le _, Nat.zero_le _⟩) hS (fun q _ h => hFc q h) hFc (fun r_31 _u t H1 locs1 ht hvm hw hB hz1 hk1 hS => ?_)
                          obtain ⟨hP1, hD1⟩ := hB
                          rw [ht] at hP1
                          obtain ⟨hP, hD⟩ := va_join (wr := [((ad 0), .inr (8, [.int md_thrownCode, .int md_p, .int md_n, .int md_order, .int md_monomials, .ref (ad 1), .ref (ad 2), .int md_generators, .ref (ad 3), .ref (ad 4), .int md_found, .int md_upTo, .ref (ad 5), .ref (ad 6), .ref (ad 7), .ref (ad 8), .int md_members, .int md_provedNow])), ((ad 1), .inl (cs 0, 126, .inl md_mono)), ((ad 8), .inl (cs 0, 126, .inl md_basis))]) (w1 := []) hP hD [] [0, 1, 2] rfl rfl (by decide) (by decide) hk1 hFc hP1 hD1
                          generalize H1 = H at hP hS ⊢
                          generalize locs1 = locs at hS ⊢
                          have hP : va_P (dC, dI) vwCl [((ad 0), .inr (8, [.int md_thrownCode, .int md_p, .int md_n, .int md_order, .int md_monomials, .ref (ad 1), .ref (ad 2), .int md_generators, .ref (ad 3), .ref (ad 4), .int md_found, .int md_upTo, .ref (ad 5), .ref (ad 6), .ref (ad 7), .ref (ad 8), .int md_members, .int md_provedNow])), ((ad 1), .inl (cs 0, 126, .inl md_mono)), ((ad 8), .inl (cs 0, 126, .inl md_basis))] H := hP
                          have hD : va_D A [((ad 0), .inr (8, [.int md_thrownCode, .int md_p, .int md_n, .int md_order, .int md_monomials, .ref (ad 1), .ref (ad 2), .int md_generators, .ref (ad 3), .ref (ad 4), .int md_found, .int md_upTo, .ref (ad 5), .ref (ad 6), .ref (ad 7), .ref (ad 8), .int md_members, .int md_provedNow])), ((ad 1), .inl (cs 0, 126, .inl md_mono)), ((ad 8), .inl (cs 0, 126, .inl md_basis))] := hD
                          have hv := hw
                          try dsimp only at hv
                          refine lv_if_le (tgt := 107) hx hb d_md_dimension_92 (by decide) (fun c_32 => ?_) (fun c_32 => ?_)
                          · have hv := hv.1 c_32
                            obtain ⟨x7_33, ex7_33⟩ : ∃ y : Int32, y = x7_22 + 1 := ⟨_, rfl⟩
                            have hv := hv x7_33 ex7_33
                            refine lv_iinc (v := x7_33) (lv' := [(7, .int x7_33), (0, .ref (ad 0)), (1, .int x1_1), (2, .int x2_2), (3, .int x3_11), (4, .int x4_6), (5, .int x5_12), (6, .int x6_21)]) hx hb d_md_dimension_107 hl (k := 7) rfl (by rw [ex7_33]; rfl) (by decide) rfl (fun ls hl => ?_)
                            refine lv_goto (tgt := 66) hx hb d_md_dimension_110 (by decide) ?_
                            exact ih66 x6_21 x7_33 (Nat.lt_of_lt_of_le hv.2 (Nat.le_of_lt_succ hlt66)) hv.1 _ _ _ (hP.sub [0, 1, 2] rfl) (hD.sub [0, 1, 2] (by decide) rfl) hS (lv_sub hl [1, 2, 3, 4, 5, 6, 7, 0] rfl)
                          · have hv := hv.2 c_32
                            refine lv_iload_n hx hb d_md_dimension_95 rfl (lv_at hl 2 rfl) ?_
                            refine lv_iload hx hb d_md_dimension_96 (lv_at hl 7 rfl) ?_
                            refine lv_ishr hx hb d_md_dimension_98 ?_
                            refine lv_iconst (v := 1) hx hb d_md_dimension_99 (by decide) ?_
                            refine lv_iand hx hb d_md_dimension_100 ?_
                            refine lv_if_ne (tgt := 107) hx hb d_md_dimension_101 (by decide) (fun c_34 => ?_) (fun c_34 => ?_)
                            · have hv := hv.1 c_34
                              obtain ⟨x7_35, ex7_35⟩ : ∃ y : Int32, y = x7_22 + 1 := ⟨_, rfl⟩
                              have hv := hv x7_35 ex7_35
                              refine lv_iinc (v := x7_35) (lv' := [(7, .int x7_35), (0, .ref (ad 0)), (1, .int x1_1), (2, .int x2_2), (3, .int x3_11), (4, .int x4_6), (5, .int x5_12), (6, .int x6_21)]) hx hb d_md_dimension_107 hl (k := 7) rfl (by rw [ex7_35]; rfl) (by decide) rfl (fun ls hl => ?_)
                              refine lv_goto (tgt := 66) hx hb d_md_dimension_110 (by decide) ?_
                              exact ih66 x6_21 x7_35 (Nat.lt_of_lt_of_le hv.2 (Nat.le_of_lt_succ hlt66)) hv.1 _ _ _ (hP.sub [0, 1, 2] rfl) (hD.sub [0, 1, 2] (by decide) rfl) hS (lv_sub hl [1, 2, 3, 4, 5, 6, 7, 0] rfl)
                            · have hv := hv.2 c_34
                              refine lv_iconst (v := 0) hx hb d_md_dimension_104 (by decide) ?_
                              refine lv_istore (lv' := [(6, .int 0), (0, .ref (ad 0)), (1, .int x1_1), (2, .int x2_2), (3, .int x3_11), (4, .int x4_6), (5, .int x5_12), (7, .int x7_22)]) hx hb d_md_dimension_105 hl (by decide) rfl (fun ls hl => ?_)
                              obtain ⟨x7_36, ex7_36⟩ : ∃ y : Int32, y = x7_22 + 1 := ⟨_, rfl⟩
                              have hv := hv x7_36 ex7_36
                              refine lv_iinc (v := x7_36) (lv' := [(7, .int x7_36), (6, .int 0), (0, .ref (ad 0)), (1, .int x1_1), (2, .int x2_2), (3, .int x3_11), (4, .int x4_6), (5, .int x5_12)]) hx hb d_md_dimension_107 hl (k := 7) rfl (by rw [ex7_36]; rfl) (by decide) rfl (fun ls hl => ?_)
                              refine lv_goto (tgt := 66) hx hb d_md_dimension_110 (by decide) ?_
                              exact ih66 0 x7_36 (Nat.lt_of_lt_of_le hv.2 (Nat.le_of_lt_succ hlt66)) hv.1 _ _ _ (hP.sub [0, 1, 2] rfl) (hD.sub [0, 1, 2] (by decide) rfl) hS (lv_sub hl [2, 3, 4, 5, 6, 7, 1, 0] rfl)
                    exact loop66 _ 1 0 (Nat.lt_succ_self _) hi0 _ _ _ hP hD hS hl
              exact loop51 _ 1 0 (Nat.lt_succ_self _) hi0 _ _ _ hP hD hS hl
            · have hv := hv.2 c_10
              refine lv_iload hx hb d_md_dimension_31 (lv_at hl 4 rfl) ?_
              refine lv_iload_n hx hb d_md_dimension_33 rfl (lv_at hl 2 rfl) ?_
              refine lv_iload hx hb d_md_dimension_34 (lv_at hl 5 rfl) ?_
              refine lv_ishr hx hb d_md_dimension_36 ?_
              refine lv_iconst (v := 1) hx hb d_md_dimension_37 (by decide) ?_
              refine lv_iand hx hb d_md_dimension_38 ?_
              refine lv_iadd hx hb d_md_dimension_39 ?_
              refine lv_topi (fun x4_37 ex4_37 => ?_)
              have hv := hv x4_37 ex4_37
              refine lv_istore (lv' := [(4, .int x4_37), (0, .ref (ad 0)), (1, .int x1_1), (2, .int x2_2), (3, .int 1), (5, .int x5_7)]) hx hb d_md_dimension_40 hl (by decide) rfl (fun ls hl => ?_)
              obtain ⟨x5_38, ex5_38⟩ : ∃ y : Int32, y = x5_7 + 1 := ⟨_, rfl⟩
              have hv := hv x5_38 ex5_38
              refine lv_iinc (v := x5_38) (lv' := [(5, .int x5_38), (4, .int x4_37), (0, .ref (ad 0)), (1, .int x1_1), (2, .int x2_2), (3, .int 1)]) hx hb d_md_dimension_42 hl (k := 5) rfl (by rw [ex5_38]; rfl) (by decide) rfl (fun ls hl => ?_)
              refine lv_goto (tgt := 22) hx hb d_md_dimension_45 (by decide) ?_
              exact ih22 x4_37 x5_38 (Nat.lt_of_lt_of_le hv.2 (Nat.le_of_lt_succ hlt22)) hv.1 _ _ _ (hP.sub [0, 1, 2] rfl) (hD.sub [0, 1, 2] (by decide) rfl) hS (lv_sub hl [2, 3, 4, 5, 1, 0] rfl)
        exact loop22 _ 0 0 (Nat.lt_succ_self _) hi0 _ _ _ hP hD hS hl
  exact loop4 _ (-1) 0 (Nat.lt_succ_self _) hi0 _ _ _ hP hD hS hl
