/-! the law: its rows, written by gen/genlaw.py out of the bytecode -/
/-- the law's frame -/
def Lf (i : Nat) : List (Option bV) := [some (vR 36 0 0), some (vR 0 0 0), some (vR 40 0 0), some (vI (nI i))]
theorem L_184 {d : Nat} {S S1 S2 : bSt} {Q : Option bV → bSt → Prop} {i : Nat} {r : Int32} (hd : 0 < d) (hn : i + 7 ≤ bROl S 36) (hl : bROl S 36 < 2 ^ 31) (hk : ∀ i' j m, S1 36 i' j m = S 36 i' j m) (h1 : Ret (d - 1) 96 [vR 0 0 0, vI (S 36 0 0 (i + 1)), vI (S 36 0 0 (i + 2))] S (some (vI r)) S1) (h2 : Ret (d - 1) 157 [vR 40 0 0, vI (S 36 0 0 (i + 1)), vI (S 36 0 0 (i + 2))] S1 (some (vI r)) S2) (hq : Wp d 266 1088 (Lf i) [] S2 Q) : Wp d 266 184 (Lf i) [] S Q := by
  have e36 : bROl S1 36 = bROl S 36 := by unfold bROl; rw [hk]
  have hn' : i + 7 ≤ bROl S1 36 := by rw [e36]; exact hn
  have hl' : bROl S1 36 < 2 ^ 31 := by rw [e36]; exact hl
  show Wp d 266 184 [some (vR 36 0 0), some (vR 0 0 0), some (vR 40 0 0), some (vI (nI i))] [] S Q
  refine (w_aload_n (show ins 266 184 = some (.aload_n 1, 1) from by decide +kernel) rfl (by decide)).mpr ?_
  refine (w_aload_n (show ins 266 185 = some (.aload_n 0, 1) from by decide +kernel) rfl (by decide)).mpr ?_
  refine (w_iload_n (show ins 266 186 = some (.iload_n 3, 1) from by decide +kernel) rfl).mpr ?_
  refine (w_iconst (x := 1) (show ins 266 187 = some (.iconst 1, 1) from by decide +kernel) (by decide)).mpr ?_
  refine (w_iadd (show ins 266 188 = some (.iadd, 1) from by decide +kernel)).mpr ?_
  refine (w_rald (k0 := 36) (n := i + 1) (show ins 266 189 = some (.iaload, 1) from by decide +kernel) rfl rfl (qI_add i 1).symm (by omega) hl).mpr ?_
  refine (w_aload_n (show ins 266 190 = some (.aload_n 0, 1) from by decide +kernel) rfl (by decide)).mpr ?_
  refine (w_iload_n (show ins 266 191 = some (.iload_n 3, 1) from by decide +kernel) rfl).mpr ?_
  refine (w_iconst (x := 2) (show ins 266 192 = some (.iconst 2, 1) from by decide +kernel) (by decide)).mpr ?_
  refine (w_iadd (show ins 266 193 = some (.iadd, 1) from by decide +kernel)).mpr ?_
  refine (w_rald (k0 := 36) (n := i + 2) (show ins 266 194 = some (.iaload, 1) from by decide +kernel) rfl rfl (qI_add i 2).symm (by omega) hl).mpr ?_
  refine (w_callV (k0 := 0) (i0 := 0) (j0 := 0) (As := [vI (S 36 0 0 (i + 1)), vI (S 36 0 0 (i + 2))]) (st' := []) hd (show ins 266 195 = some (.invokevirtual 13, 3) from by decide +kernel) (show bck1 266 13 96 3 false = true from by decide +kernel) rfl rfl (Nat.le_of_ble_eq_true rfl) (by decide +kernel) (by decide) h1).mpr ?_
  refine (w_aload_n (show ins 266 198 = some (.aload_n 2, 1) from by decide +kernel) rfl (by decide)).mpr ?_
  refine (w_aload_n (show ins 266 199 = some (.aload_n 0, 1) from by decide +kernel) rfl (by decide)).mpr ?_
  refine (w_iload_n (show ins 266 200 = some (.iload_n 3, 1) from by decide +kernel) rfl).mpr ?_
  refine (w_iconst (x := 1) (show ins 266 201 = some (.iconst 1, 1) from by decide +kernel) (by decide)).mpr ?_
  refine (w_iadd (show ins 266 202 = some (.iadd, 1) from by decide +kernel)).mpr ?_
  refine (w_rald (k0 := 36) (n := i + 1) (show ins 266 203 = some (.iaload, 1) from by decide +kernel) rfl rfl (qI_add i 1).symm (by omega) hl').mpr ?_
  rw [hk 0 0 (i + 1)]
  refine (w_aload_n (show ins 266 204 = some (.aload_n 0, 1) from by decide +kernel) rfl (by decide)).mpr ?_
  refine (w_iload_n (show ins 266 205 = some (.iload_n 3, 1) from by decide +kernel) rfl).mpr ?_
  refine (w_iconst (x := 2) (show ins 266 206 = some (.iconst 2, 1) from by decide +kernel) (by decide)).mpr ?_
  refine (w_iadd (show ins 266 207 = some (.iadd, 1) from by decide +kernel)).mpr ?_
  refine (w_rald (k0 := 36) (n := i + 2) (show ins 266 208 = some (.iaload, 1) from by decide +kernel) rfl rfl (qI_add i 2).symm (by omega) hl').mpr ?_
  rw [hk 0 0 (i + 2)]
  refine (w_callV (k0 := 40) (i0 := 0) (j0 := 0) (As := [vI (S 36 0 0 (i + 1)), vI (S 36 0 0 (i + 2))]) (st' := [vI r]) hd (show ins 266 209 = some (.invokevirtual 17, 3) from by decide +kernel) (show bck1 266 17 157 3 false = true from by decide +kernel) rfl rfl (Nat.le_of_ble_eq_true rfl) (by decide +kernel) (by decide) h2).mpr ?_
  refine (w_icmpeq (t := 1088) (show ins 266 212 = some (.if_icmp .eq 876, 3) from by decide +kernel) (by decide)).mpr ?_
  rw [if_pos rfl]
  exact hq
theorem L_217 {d : Nat} {S S1 S2 : bSt} {Q : Option bV → bSt → Prop} {i : Nat} {r : Int32} (hd : 0 < d) (hn : i + 7 ≤ bROl S 36) (hl : bROl S 36 < 2 ^ 31) (hk : ∀ i' j m, S1 36 i' j m = S 36 i' j m) (h1 : Ret (d - 1) 97 [vR 0 0 0, vI (S 36 0 0 (i + 1)), vI (S 36 0 0 (i + 2)), vI (S 36 0 0 (i + 3)), vI (S 36 0 0 (i + 4)), vI (S 36 0 0 (i + 5)), vI (S 36 0 0 (i + 6))] S (some (vI r)) S1) (h2 : Ret (d - 1) 162 [vR 40 0 0, vI (S 36 0 0 (i + 1)), vI (S 36 0 0 (i + 2)), vI (S 36 0 0 (i + 3)), vI (S 36 0 0 (i + 4)), vI (S 36 0 0 (i + 5)), vI (S 36 0 0 (i + 6))] S1 (some (vI r)) S2) (hq : Wp d 266 1088 (Lf i) [] S2 Q) : Wp d 266 217 (Lf i) [] S Q := by
  have e36 : bROl S1 36 = bROl S 36 := by unfold bROl; rw [hk]
  have hn' : i + 7 ≤ bROl S1 36 := by rw [e36]; exact hn
  have hl' : bROl S1 36 < 2 ^ 31 := by rw [e36]; exact hl
  show Wp d 266 217 [some (vR 36 0 0), some (vR 0 0 0), some (vR 40 0 0), some (vI (nI i))] [] S Q
  refine (w_aload_n (show ins 266 217 = some (.aload_n 1, 1) from by decide +kernel) rfl (by decide)).mpr ?_
  refine (w_aload_n (show ins 266 218 = some (.aload_n 0, 1) from by decide +kernel) rfl (by decide)).mpr ?_
  refine (w_iload_n (show ins 266 219 = some (.iload_n 3, 1) from by decide +kernel) rfl).mpr ?_
  refine (w_iconst (x := 1) (show ins 266 220 = some (.iconst 1, 1) from by decide +kernel) (by decide)).mpr ?_
  refine (w_iadd (show ins 266 221 = some (.iadd, 1) from by decide +kernel)).mpr ?_
  refine (w_rald (k0 := 36) (n := i + 1) (show ins 266 222 = some (.iaload, 1) from by decide +kernel) rfl rfl (qI_add i 1).symm (by omega) hl).mpr ?_
  refine (w_aload_n (show ins 266 223 = some (.aload_n 0, 1) from by decide +kernel) rfl (by decide)).mpr ?_
  refine (w_iload_n (show ins 266 224 = some (.iload_n 3, 1) from by decide +kernel) rfl).mpr ?_
  refine (w_iconst (x := 2) (show ins 266 225 = some (.iconst 2, 1) from by decide +kernel) (by decide)).mpr ?_
  refine (w_iadd (show ins 266 226 = some (.iadd, 1) from by decide +kernel)).mpr ?_
  refine (w_rald (k0 := 36) (n := i + 2) (show ins 266 227 = some (.iaload, 1) from by decide +kernel) rfl rfl (qI_add i 2).symm (by omega) hl).mpr ?_
  refine (w_aload_n (show ins 266 228 = some (.aload_n 0, 1) from by decide +kernel) rfl (by decide)).mpr ?_
  refine (w_iload_n (show ins 266 229 = some (.iload_n 3, 1) from by decide +kernel) rfl).mpr ?_
  refine (w_iconst (x := 3) (show ins 266 230 = some (.iconst 3, 1) from by decide +kernel) (by decide)).mpr ?_
  refine (w_iadd (show ins 266 231 = some (.iadd, 1) from by decide +kernel)).mpr ?_
  refine (w_rald (k0 := 36) (n := i + 3) (show ins 266 232 = some (.iaload, 1) from by decide +kernel) rfl rfl (qI_add i 3).symm (by omega) hl).mpr ?_
  refine (w_aload_n (show ins 266 233 = some (.aload_n 0, 1) from by decide +kernel) rfl (by decide)).mpr ?_
  refine (w_iload_n (show ins 266 234 = some (.iload_n 3, 1) from by decide +kernel) rfl).mpr ?_
  refine (w_iconst (x := 4) (show ins 266 235 = some (.iconst 4, 1) from by decide +kernel) (by decide)).mpr ?_
  refine (w_iadd (show ins 266 236 = some (.iadd, 1) from by decide +kernel)).mpr ?_
  refine (w_rald (k0 := 36) (n := i + 4) (show ins 266 237 = some (.iaload, 1) from by decide +kernel) rfl rfl (qI_add i 4).symm (by omega) hl).mpr ?_
  refine (w_aload_n (show ins 266 238 = some (.aload_n 0, 1) from by decide +kernel) rfl (by decide)).mpr ?_
  refine (w_iload_n (show ins 266 239 = some (.iload_n 3, 1) from by decide +kernel) rfl).mpr ?_
  refine (w_iconst (x := 5) (show ins 266 240 = some (.iconst 5, 1) from by decide +kernel) (by decide)).mpr ?_
  refine (w_iadd (show ins 266 241 = some (.iadd, 1) from by decide +kernel)).mpr ?_
  refine (w_rald (k0 := 36) (n := i + 5) (show ins 266 242 = some (.iaload, 1) from by decide +kernel) rfl rfl (qI_add i 5).symm (by omega) hl).mpr ?_
  refine (w_aload_n (show ins 266 243 = some (.aload_n 0, 1) from by decide +kernel) rfl (by decide)).mpr ?_
  refine (w_iload_n (show ins 266 244 = some (.iload_n 3, 1) from by decide +kernel) rfl).mpr ?_
  refine (w_bipush (x := 6) (show ins 266 245 = some (.bipush 6, 2) from by decide +kernel) (by decide)).mpr ?_
  refine (w_iadd (show ins 266 247 = some (.iadd, 1) from by decide +kernel)).mpr ?_
  refine (w_rald (k0 := 36) (n := i + 6) (show ins 266 248 = some (.iaload, 1) from by decide +kernel) rfl rfl (qI_add i 6).symm (by omega) hl).mpr ?_
  refine (w_callV (k0 := 0) (i0 := 0) (j0 := 0) (As := [vI (S 36 0 0 (i + 1)), vI (S 36 0 0 (i + 2)), vI (S 36 0 0 (i + 3)), vI (S 36 0 0 (i + 4)), vI (S 36 0 0 (i + 5)), vI (S 36 0 0 (i + 6))]) (st' := []) hd (show ins 266 249 = some (.invokevirtual 18, 3) from by decide +kernel) (show bck1 266 18 97 7 false = true from by decide +kernel) rfl rfl (Nat.le_of_ble_eq_true rfl) (by decide +kernel) (by decide) h1).mpr ?_
  refine (w_aload_n (show ins 266 252 = some (.aload_n 2, 1) from by decide +kernel) rfl (by decide)).mpr ?_
  refine (w_aload_n (show ins 266 253 = some (.aload_n 0, 1) from by decide +kernel) rfl (by decide)).mpr ?_
  refine (w_iload_n (show ins 266 254 = some (.iload_n 3, 1) from by decide +kernel) rfl).mpr ?_
  refine (w_iconst (x := 1) (show ins 266 255 = some (.iconst 1, 1) from by decide +kernel) (by decide)).mpr ?_
  refine (w_iadd (show ins 266 256 = some (.iadd, 1) from by decide +kernel)).mpr ?_
  refine (w_rald (k0 := 36) (n := i + 1) (show ins 266 257 = some (.iaload, 1) from by decide +kernel) rfl rfl (qI_add i 1).symm (by omega) hl').mpr ?_
  rw [hk 0 0 (i + 1)]
  refine (w_aload_n (show ins 266 258 = some (.aload_n 0, 1) from by decide +kernel) rfl (by decide)).mpr ?_
  refine (w_iload_n (show ins 266 259 = some (.iload_n 3, 1) from by decide +kernel) rfl).mpr ?_
  refine (w_iconst (x := 2) (show ins 266 260 = some (.iconst 2, 1) from by decide +kernel) (by decide)).mpr ?_
  refine (w_iadd (show ins 266 261 = some (.iadd, 1) from by decide +kernel)).mpr ?_
  refine (w_rald (k0 := 36) (n := i + 2) (show ins 266 262 = some (.iaload, 1) from by decide +kernel) rfl rfl (qI_add i 2).symm (by omega) hl').mpr ?_
  rw [hk 0 0 (i + 2)]
  refine (w_aload_n (show ins 266 263 = some (.aload_n 0, 1) from by decide +kernel) rfl (by decide)).mpr ?_
  refine (w_iload_n (show ins 266 264 = some (.iload_n 3, 1) from by decide +kernel) rfl).mpr ?_
  refine (w_iconst (x := 3) (show ins 266 265 = some (.iconst 3, 1) from by decide +kernel) (by decide)).mpr ?_
  refine (w_iadd (show ins 266 266 = some (.iadd, 1) from by decide +kernel)).mpr ?_
  refine (w_rald (k0 := 36) (n := i + 3) (show ins 266 267 = some (.iaload, 1) from by decide +kernel) rfl rfl (qI_add i 3).symm (by omega) hl').mpr ?_
  rw [hk 0 0 (i + 3)]
  refine (w_aload_n (show ins 266 268 = some (.aload_n 0, 1) from by decide +kernel) rfl (by decide)).mpr ?_
  refine (w_iload_n (show ins 266 269 = some (.iload_n 3, 1) from by decide +kernel) rfl).mpr ?_
  refine (w_iconst (x := 4) (show ins 266 270 = some (.iconst 4, 1) from by decide +kernel) (by decide)).mpr ?_
  refine (w_iadd (show ins 266 271 = some (.iadd, 1) from by decide +kernel)).mpr ?_
  refine (w_rald (k0 := 36) (n := i + 4) (show ins 266 272 = some (.iaload, 1) from by decide +kernel) rfl rfl (qI_add i 4).symm (by omega) hl').mpr ?_
  rw [hk 0 0 (i + 4)]
  refine (w_aload_n (show ins 266 273 = some (.aload_n 0, 1) from by decide +kernel) rfl (by decide)).mpr ?_
  refine (w_iload_n (show ins 266 274 = some (.iload_n 3, 1) from by decide +kernel) rfl).mpr ?_
  refine (w_iconst (x := 5) (show ins 266 275 = some (.iconst 5, 1) from by decide +kernel) (by decide)).mpr ?_
  refine (w_iadd (show ins 266 276 = some (.iadd, 1) from by decide +kernel)).mpr ?_
  refine (w_rald (k0 := 36) (n := i + 5) (show ins 266 277 = some (.iaload, 1) from by decide +kernel) rfl rfl (qI_add i 5).symm (by omega) hl').mpr ?_
  rw [hk 0 0 (i + 5)]
  refine (w_aload_n (show ins 266 278 = some (.aload_n 0, 1) from by decide +kernel) rfl (by decide)).mpr ?_
  refine (w_iload_n (show ins 266 279 = some (.iload_n 3, 1) from by decide +kernel) rfl).mpr ?_
  refine (w_bipush (x := 6) (show ins 266 280 = some (.bipush 6, 2) from by decide +kernel) (by decide)).mpr ?_
  refine (w_iadd (show ins 266 282 = some (.iadd, 1) from by decide +kernel)).mpr ?_
  refine (w_rald (k0 := 36) (n := i + 6) (show ins 266 283 = some (.iaload, 1) from by decide +kernel) rfl rfl (qI_add i 6).symm (by omega) hl').mpr ?_
  rw [hk 0 0 (i + 6)]
  refine (w_callV (k0 := 40) (i0 := 0) (j0 := 0) (As := [vI (S 36 0 0 (i + 1)), vI (S 36 0 0 (i + 2)), vI (S 36 0 0 (i + 3)), vI (S 36 0 0 (i + 4)), vI (S 36 0 0 (i + 5)), vI (S 36 0 0 (i + 6))]) (st' := [vI r]) hd (show ins 266 284 = some (.invokevirtual 22, 3) from by decide +kernel) (show bck1 266 22 162 7 false = true from by decide +kernel) rfl rfl (Nat.le_of_ble_eq_true rfl) (by decide +kernel) (by decide) h2).mpr ?_
  refine (w_icmpeq (t := 1088) (show ins 266 287 = some (.if_icmp .eq 801, 3) from by decide +kernel) (by decide)).mpr ?_
  rw [if_pos rfl]
  exact hq
theorem L_292 {d : Nat} {S S1 S2 : bSt} {Q : Option bV → bSt → Prop} {i : Nat} {r : Int32} (hd : 0 < d) (hn : i + 7 ≤ bROl S 36) (hl : bROl S 36 < 2 ^ 31) (hk : ∀ i' j m, S1 36 i' j m = S 36 i' j m) (h1 : Ret (d - 1) 98 [vR 0 0 0, vI (S 36 0 0 (i + 1)), vI (S 36 0 0 (i + 2)), vI (S 36 0 0 (i + 3))] S (some (vI r)) S1) (h2 : Ret (d - 1) 163 [vR 40 0 0, vI (S 36 0 0 (i + 1)), vI (S 36 0 0 (i + 2)), vI (S 36 0 0 (i + 3))] S1 (some (vI r)) S2) (hq : Wp d 266 1088 (Lf i) [] S2 Q) : Wp d 266 292 (Lf i) [] S Q := by
  have e36 : bROl S1 36 = bROl S 36 := by unfold bROl; rw [hk]
  have hn' : i + 7 ≤ bROl S1 36 := by rw [e36]; exact hn
  have hl' : bROl S1 36 < 2 ^ 31 := by rw [e36]; exact hl
  show Wp d 266 292 [some (vR 36 0 0), some (vR 0 0 0), some (vR 40 0 0), some (vI (nI i))] [] S Q
  refine (w_aload_n (show ins 266 292 = some (.aload_n 1, 1) from by decide +kernel) rfl (by decide)).mpr ?_
  refine (w_aload_n (show ins 266 293 = some (.aload_n 0, 1) from by decide +kernel) rfl (by decide)).mpr ?_
  refine (w_iload_n (show ins 266 294 = some (.iload_n 3, 1) from by decide +kernel) rfl).mpr ?_
  refine (w_iconst (x := 1) (show ins 266 295 = some (.iconst 1, 1) from by decide +kernel) (by decide)).mpr ?_
  refine (w_iadd (show ins 266 296 = some (.iadd, 1) from by decide +kernel)).mpr ?_
  refine (w_rald (k0 := 36) (n := i + 1) (show ins 266 297 = some (.iaload, 1) from by decide +kernel) rfl rfl (qI_add i 1).symm (by omega) hl).mpr ?_
  refine (w_aload_n (show ins 266 298 = some (.aload_n 0, 1) from by decide +kernel) rfl (by decide)).mpr ?_
  refine (w_iload_n (show ins 266 299 = some (.iload_n 3, 1) from by decide +kernel) rfl).mpr ?_
  refine (w_iconst (x := 2) (show ins 266 300 = some (.iconst 2, 1) from by decide +kernel) (by decide)).mpr ?_
  refine (w_iadd (show ins 266 301 = some (.iadd, 1) from by decide +kernel)).mpr ?_
  refine (w_rald (k0 := 36) (n := i + 2) (show ins 266 302 = some (.iaload, 1) from by decide +kernel) rfl rfl (qI_add i 2).symm (by omega) hl).mpr ?_
  refine (w_aload_n (show ins 266 303 = some (.aload_n 0, 1) from by decide +kernel) rfl (by decide)).mpr ?_
  refine (w_iload_n (show ins 266 304 = some (.iload_n 3, 1) from by decide +kernel) rfl).mpr ?_
  refine (w_iconst (x := 3) (show ins 266 305 = some (.iconst 3, 1) from by decide +kernel) (by decide)).mpr ?_
  refine (w_iadd (show ins 266 306 = some (.iadd, 1) from by decide +kernel)).mpr ?_
  refine (w_rald (k0 := 36) (n := i + 3) (show ins 266 307 = some (.iaload, 1) from by decide +kernel) rfl rfl (qI_add i 3).symm (by omega) hl).mpr ?_
  refine (w_callV (k0 := 0) (i0 := 0) (j0 := 0) (As := [vI (S 36 0 0 (i + 1)), vI (S 36 0 0 (i + 2)), vI (S 36 0 0 (i + 3))]) (st' := []) hd (show ins 266 308 = some (.invokevirtual 23, 3) from by decide +kernel) (show bck1 266 23 98 4 false = true from by decide +kernel) rfl rfl (Nat.le_of_ble_eq_true rfl) (by decide +kernel) (by decide) h1).mpr ?_
  refine (w_aload_n (show ins 266 311 = some (.aload_n 2, 1) from by decide +kernel) rfl (by decide)).mpr ?_
  refine (w_aload_n (show ins 266 312 = some (.aload_n 0, 1) from by decide +kernel) rfl (by decide)).mpr ?_
  refine (w_iload_n (show ins 266 313 = some (.iload_n 3, 1) from by decide +kernel) rfl).mpr ?_
  refine (w_iconst (x := 1) (show ins 266 314 = some (.iconst 1, 1) from by decide +kernel) (by decide)).mpr ?_
  refine (w_iadd (show ins 266 315 = some (.iadd, 1) from by decide +kernel)).mpr ?_
  refine (w_rald (k0 := 36) (n := i + 1) (show ins 266 316 = some (.iaload, 1) from by decide +kernel) rfl rfl (qI_add i 1).symm (by omega) hl').mpr ?_
  rw [hk 0 0 (i + 1)]
  refine (w_aload_n (show ins 266 317 = some (.aload_n 0, 1) from by decide +kernel) rfl (by decide)).mpr ?_
  refine (w_iload_n (show ins 266 318 = some (.iload_n 3, 1) from by decide +kernel) rfl).mpr ?_
  refine (w_iconst (x := 2) (show ins 266 319 = some (.iconst 2, 1) from by decide +kernel) (by decide)).mpr ?_
  refine (w_iadd (show ins 266 320 = some (.iadd, 1) from by decide +kernel)).mpr ?_
  refine (w_rald (k0 := 36) (n := i + 2) (show ins 266 321 = some (.iaload, 1) from by decide +kernel) rfl rfl (qI_add i 2).symm (by omega) hl').mpr ?_
  rw [hk 0 0 (i + 2)]
  refine (w_aload_n (show ins 266 322 = some (.aload_n 0, 1) from by decide +kernel) rfl (by decide)).mpr ?_
  refine (w_iload_n (show ins 266 323 = some (.iload_n 3, 1) from by decide +kernel) rfl).mpr ?_
  refine (w_iconst (x := 3) (show ins 266 324 = some (.iconst 3, 1) from by decide +kernel) (by decide)).mpr ?_
  refine (w_iadd (show ins 266 325 = some (.iadd, 1) from by decide +kernel)).mpr ?_
  refine (w_rald (k0 := 36) (n := i + 3) (show ins 266 326 = some (.iaload, 1) from by decide +kernel) rfl rfl (qI_add i 3).symm (by omega) hl').mpr ?_
  rw [hk 0 0 (i + 3)]
  refine (w_callV (k0 := 40) (i0 := 0) (j0 := 0) (As := [vI (S 36 0 0 (i + 1)), vI (S 36 0 0 (i + 2)), vI (S 36 0 0 (i + 3))]) (st' := [vI r]) hd (show ins 266 327 = some (.invokevirtual 27, 3) from by decide +kernel) (show bck1 266 27 163 4 false = true from by decide +kernel) rfl rfl (Nat.le_of_ble_eq_true rfl) (by decide +kernel) (by decide) h2).mpr ?_
  refine (w_icmpeq (t := 1088) (show ins 266 330 = some (.if_icmp .eq 758, 3) from by decide +kernel) (by decide)).mpr ?_
  rw [if_pos rfl]
  exact hq
theorem L_335 {d : Nat} {S S1 S2 : bSt} {Q : Option bV → bSt → Prop} {i : Nat} {r : Int32} (hd : 0 < d) (hn : i + 7 ≤ bROl S 36) (hl : bROl S 36 < 2 ^ 31) (hk : ∀ i' j m, S1 36 i' j m = S 36 i' j m) (h1 : Ret (d - 1) 99 [vR 0 0 0, vI (S 36 0 0 (i + 1)), vI (S 36 0 0 (i + 2))] S (some (vI r)) S1) (h2 : Ret (d - 1) 165 [vR 40 0 0, vI (S 36 0 0 (i + 1)), vI (S 36 0 0 (i + 2))] S1 (some (vI r)) S2) (hq : Wp d 266 1088 (Lf i) [] S2 Q) : Wp d 266 335 (Lf i) [] S Q := by
  have e36 : bROl S1 36 = bROl S 36 := by unfold bROl; rw [hk]
  have hn' : i + 7 ≤ bROl S1 36 := by rw [e36]; exact hn
  have hl' : bROl S1 36 < 2 ^ 31 := by rw [e36]; exact hl
  show Wp d 266 335 [some (vR 36 0 0), some (vR 0 0 0), some (vR 40 0 0), some (vI (nI i))] [] S Q
  refine (w_aload_n (show ins 266 335 = some (.aload_n 1, 1) from by decide +kernel) rfl (by decide)).mpr ?_
  refine (w_aload_n (show ins 266 336 = some (.aload_n 0, 1) from by decide +kernel) rfl (by decide)).mpr ?_
  refine (w_iload_n (show ins 266 337 = some (.iload_n 3, 1) from by decide +kernel) rfl).mpr ?_
  refine (w_iconst (x := 1) (show ins 266 338 = some (.iconst 1, 1) from by decide +kernel) (by decide)).mpr ?_
  refine (w_iadd (show ins 266 339 = some (.iadd, 1) from by decide +kernel)).mpr ?_
  refine (w_rald (k0 := 36) (n := i + 1) (show ins 266 340 = some (.iaload, 1) from by decide +kernel) rfl rfl (qI_add i 1).symm (by omega) hl).mpr ?_
  refine (w_aload_n (show ins 266 341 = some (.aload_n 0, 1) from by decide +kernel) rfl (by decide)).mpr ?_
  refine (w_iload_n (show ins 266 342 = some (.iload_n 3, 1) from by decide +kernel) rfl).mpr ?_
  refine (w_iconst (x := 2) (show ins 266 343 = some (.iconst 2, 1) from by decide +kernel) (by decide)).mpr ?_
  refine (w_iadd (show ins 266 344 = some (.iadd, 1) from by decide +kernel)).mpr ?_
  refine (w_rald (k0 := 36) (n := i + 2) (show ins 266 345 = some (.iaload, 1) from by decide +kernel) rfl rfl (qI_add i 2).symm (by omega) hl).mpr ?_
  refine (w_callV (k0 := 0) (i0 := 0) (j0 := 0) (As := [vI (S 36 0 0 (i + 1)), vI (S 36 0 0 (i + 2))]) (st' := []) hd (show ins 266 346 = some (.invokevirtual 28, 3) from by decide +kernel) (show bck1 266 28 99 3 false = true from by decide +kernel) rfl rfl (Nat.le_of_ble_eq_true rfl) (by decide +kernel) (by decide) h1).mpr ?_
  refine (w_aload_n (show ins 266 349 = some (.aload_n 2, 1) from by decide +kernel) rfl (by decide)).mpr ?_
  refine (w_aload_n (show ins 266 350 = some (.aload_n 0, 1) from by decide +kernel) rfl (by decide)).mpr ?_
  refine (w_iload_n (show ins 266 351 = some (.iload_n 3, 1) from by decide +kernel) rfl).mpr ?_
  refine (w_iconst (x := 1) (show ins 266 352 = some (.iconst 1, 1) from by decide +kernel) (by decide)).mpr ?_
  refine (w_iadd (show ins 266 353 = some (.iadd, 1) from by decide +kernel)).mpr ?_
  refine (w_rald (k0 := 36) (n := i + 1) (show ins 266 354 = some (.iaload, 1) from by decide +kernel) rfl rfl (qI_add i 1).symm (by omega) hl').mpr ?_
  rw [hk 0 0 (i + 1)]
  refine (w_aload_n (show ins 266 355 = some (.aload_n 0, 1) from by decide +kernel) rfl (by decide)).mpr ?_
  refine (w_iload_n (show ins 266 356 = some (.iload_n 3, 1) from by decide +kernel) rfl).mpr ?_
  refine (w_iconst (x := 2) (show ins 266 357 = some (.iconst 2, 1) from by decide +kernel) (by decide)).mpr ?_
  refine (w_iadd (show ins 266 358 = some (.iadd, 1) from by decide +kernel)).mpr ?_
  refine (w_rald (k0 := 36) (n := i + 2) (show ins 266 359 = some (.iaload, 1) from by decide +kernel) rfl rfl (qI_add i 2).symm (by omega) hl').mpr ?_
  rw [hk 0 0 (i + 2)]
  refine (w_callV (k0 := 40) (i0 := 0) (j0 := 0) (As := [vI (S 36 0 0 (i + 1)), vI (S 36 0 0 (i + 2))]) (st' := [vI r]) hd (show ins 266 360 = some (.invokevirtual 31, 3) from by decide +kernel) (show bck1 266 31 165 3 false = true from by decide +kernel) rfl rfl (Nat.le_of_ble_eq_true rfl) (by decide +kernel) (by decide) h2).mpr ?_
  refine (w_icmpeq (t := 1088) (show ins 266 363 = some (.if_icmp .eq 725, 3) from by decide +kernel) (by decide)).mpr ?_
  rw [if_pos rfl]
  exact hq
theorem L_368 {d : Nat} {S S1 S2 : bSt} {Q : Option bV → bSt → Prop} {i : Nat} {r : Int32} (hd : 0 < d) (hn : i + 7 ≤ bROl S 36) (hl : bROl S 36 < 2 ^ 31) (hk : ∀ i' j m, S1 36 i' j m = S 36 i' j m) (h1 : Ret (d - 1) 100 [vR 0 0 0, vI (S 36 0 0 (i + 1)), vI (S 36 0 0 (i + 2))] S (some (vI r)) S1) (h2 : Ret (d - 1) 167 [vR 40 0 0, vI (S 36 0 0 (i + 1)), vI (S 36 0 0 (i + 2))] S1 (some (vI r)) S2) (hq : Wp d 266 1088 (Lf i) [] S2 Q) : Wp d 266 368 (Lf i) [] S Q := by
  have e36 : bROl S1 36 = bROl S 36 := by unfold bROl; rw [hk]
  have hn' : i + 7 ≤ bROl S1 36 := by rw [e36]; exact hn
  have hl' : bROl S1 36 < 2 ^ 31 := by rw [e36]; exact hl
  show Wp d 266 368 [some (vR 36 0 0), some (vR 0 0 0), some (vR 40 0 0), some (vI (nI i))] [] S Q
  refine (w_aload_n (show ins 266 368 = some (.aload_n 1, 1) from by decide +kernel) rfl (by decide)).mpr ?_
  refine (w_aload_n (show ins 266 369 = some (.aload_n 0, 1) from by decide +kernel) rfl (by decide)).mpr ?_
  refine (w_iload_n (show ins 266 370 = some (.iload_n 3, 1) from by decide +kernel) rfl).mpr ?_
  refine (w_iconst (x := 1) (show ins 266 371 = some (.iconst 1, 1) from by decide +kernel) (by decide)).mpr ?_
  refine (w_iadd (show ins 266 372 = some (.iadd, 1) from by decide +kernel)).mpr ?_
  refine (w_rald (k0 := 36) (n := i + 1) (show ins 266 373 = some (.iaload, 1) from by decide +kernel) rfl rfl (qI_add i 1).symm (by omega) hl).mpr ?_
  refine (w_aload_n (show ins 266 374 = some (.aload_n 0, 1) from by decide +kernel) rfl (by decide)).mpr ?_
  refine (w_iload_n (show ins 266 375 = some (.iload_n 3, 1) from by decide +kernel) rfl).mpr ?_
  refine (w_iconst (x := 2) (show ins 266 376 = some (.iconst 2, 1) from by decide +kernel) (by decide)).mpr ?_
  refine (w_iadd (show ins 266 377 = some (.iadd, 1) from by decide +kernel)).mpr ?_
  refine (w_rald (k0 := 36) (n := i + 2) (show ins 266 378 = some (.iaload, 1) from by decide +kernel) rfl rfl (qI_add i 2).symm (by omega) hl).mpr ?_
  refine (w_callV (k0 := 0) (i0 := 0) (j0 := 0) (As := [vI (S 36 0 0 (i + 1)), vI (S 36 0 0 (i + 2))]) (st' := []) hd (show ins 266 379 = some (.invokevirtual 32, 3) from by decide +kernel) (show bck1 266 32 100 3 false = true from by decide +kernel) rfl rfl (Nat.le_of_ble_eq_true rfl) (by decide +kernel) (by decide) h1).mpr ?_
  refine (w_aload_n (show ins 266 382 = some (.aload_n 2, 1) from by decide +kernel) rfl (by decide)).mpr ?_
  refine (w_aload_n (show ins 266 383 = some (.aload_n 0, 1) from by decide +kernel) rfl (by decide)).mpr ?_
  refine (w_iload_n (show ins 266 384 = some (.iload_n 3, 1) from by decide +kernel) rfl).mpr ?_
  refine (w_iconst (x := 1) (show ins 266 385 = some (.iconst 1, 1) from by decide +kernel) (by decide)).mpr ?_
  refine (w_iadd (show ins 266 386 = some (.iadd, 1) from by decide +kernel)).mpr ?_
  refine (w_rald (k0 := 36) (n := i + 1) (show ins 266 387 = some (.iaload, 1) from by decide +kernel) rfl rfl (qI_add i 1).symm (by omega) hl').mpr ?_
  rw [hk 0 0 (i + 1)]
  refine (w_aload_n (show ins 266 388 = some (.aload_n 0, 1) from by decide +kernel) rfl (by decide)).mpr ?_
  refine (w_iload_n (show ins 266 389 = some (.iload_n 3, 1) from by decide +kernel) rfl).mpr ?_
  refine (w_iconst (x := 2) (show ins 266 390 = some (.iconst 2, 1) from by decide +kernel) (by decide)).mpr ?_
  refine (w_iadd (show ins 266 391 = some (.iadd, 1) from by decide +kernel)).mpr ?_
  refine (w_rald (k0 := 36) (n := i + 2) (show ins 266 392 = some (.iaload, 1) from by decide +kernel) rfl rfl (qI_add i 2).symm (by omega) hl').mpr ?_
  rw [hk 0 0 (i + 2)]
  refine (w_callV (k0 := 40) (i0 := 0) (j0 := 0) (As := [vI (S 36 0 0 (i + 1)), vI (S 36 0 0 (i + 2))]) (st' := [vI r]) hd (show ins 266 393 = some (.invokevirtual 35, 3) from by decide +kernel) (show bck1 266 35 167 3 false = true from by decide +kernel) rfl rfl (Nat.le_of_ble_eq_true rfl) (by decide +kernel) (by decide) h2).mpr ?_
  refine (w_icmpeq (t := 1088) (show ins 266 396 = some (.if_icmp .eq 692, 3) from by decide +kernel) (by decide)).mpr ?_
  rw [if_pos rfl]
  exact hq
theorem L_401 {d : Nat} {S S1 S2 : bSt} {Q : Option bV → bSt → Prop} {i : Nat} {r : Int32} (hd : 0 < d) (hn : i + 7 ≤ bROl S 36) (hl : bROl S 36 < 2 ^ 31) (hk : ∀ i' j m, S1 36 i' j m = S 36 i' j m) (h1 : Ret (d - 1) 101 [vR 0 0 0, vI (S 36 0 0 (i + 1))] S (some (vI r)) S1) (h2 : Ret (d - 1) 169 [vR 40 0 0, vI (S 36 0 0 (i + 1))] S1 (some (vI r)) S2) (hq : Wp d 266 1088 (Lf i) [] S2 Q) : Wp d 266 401 (Lf i) [] S Q := by
  have e36 : bROl S1 36 = bROl S 36 := by unfold bROl; rw [hk]
  have hn' : i + 7 ≤ bROl S1 36 := by rw [e36]; exact hn
  have hl' : bROl S1 36 < 2 ^ 31 := by rw [e36]; exact hl
  show Wp d 266 401 [some (vR 36 0 0), some (vR 0 0 0), some (vR 40 0 0), some (vI (nI i))] [] S Q
  refine (w_aload_n (show ins 266 401 = some (.aload_n 1, 1) from by decide +kernel) rfl (by decide)).mpr ?_
  refine (w_aload_n (show ins 266 402 = some (.aload_n 0, 1) from by decide +kernel) rfl (by decide)).mpr ?_
  refine (w_iload_n (show ins 266 403 = some (.iload_n 3, 1) from by decide +kernel) rfl).mpr ?_
  refine (w_iconst (x := 1) (show ins 266 404 = some (.iconst 1, 1) from by decide +kernel) (by decide)).mpr ?_
  refine (w_iadd (show ins 266 405 = some (.iadd, 1) from by decide +kernel)).mpr ?_
  refine (w_rald (k0 := 36) (n := i + 1) (show ins 266 406 = some (.iaload, 1) from by decide +kernel) rfl rfl (qI_add i 1).symm (by omega) hl).mpr ?_
  refine (w_callV (k0 := 0) (i0 := 0) (j0 := 0) (As := [vI (S 36 0 0 (i + 1))]) (st' := []) hd (show ins 266 407 = some (.invokevirtual 36, 3) from by decide +kernel) (show bck1 266 36 101 2 false = true from by decide +kernel) rfl rfl (Nat.le_of_ble_eq_true rfl) (by decide +kernel) (by decide) h1).mpr ?_
  refine (w_aload_n (show ins 266 410 = some (.aload_n 2, 1) from by decide +kernel) rfl (by decide)).mpr ?_
  refine (w_aload_n (show ins 266 411 = some (.aload_n 0, 1) from by decide +kernel) rfl (by decide)).mpr ?_
  refine (w_iload_n (show ins 266 412 = some (.iload_n 3, 1) from by decide +kernel) rfl).mpr ?_
  refine (w_iconst (x := 1) (show ins 266 413 = some (.iconst 1, 1) from by decide +kernel) (by decide)).mpr ?_
  refine (w_iadd (show ins 266 414 = some (.iadd, 1) from by decide +kernel)).mpr ?_
  refine (w_rald (k0 := 36) (n := i + 1) (show ins 266 415 = some (.iaload, 1) from by decide +kernel) rfl rfl (qI_add i 1).symm (by omega) hl').mpr ?_
  rw [hk 0 0 (i + 1)]
  refine (w_callV (k0 := 40) (i0 := 0) (j0 := 0) (As := [vI (S 36 0 0 (i + 1))]) (st' := [vI r]) hd (show ins 266 416 = some (.invokevirtual 40, 3) from by decide +kernel) (show bck1 266 40 169 2 false = true from by decide +kernel) rfl rfl (Nat.le_of_ble_eq_true rfl) (by decide +kernel) (by decide) h2).mpr ?_
  refine (w_icmpeq (t := 1088) (show ins 266 419 = some (.if_icmp .eq 669, 3) from by decide +kernel) (by decide)).mpr ?_
  rw [if_pos rfl]
  exact hq
theorem L_424 {d : Nat} {S S1 S2 : bSt} {Q : Option bV → bSt → Prop} {i : Nat} {r : Int32} (hd : 0 < d) (hn : i + 7 ≤ bROl S 36) (hl : bROl S 36 < 2 ^ 31) (hk : ∀ i' j m, S1 36 i' j m = S 36 i' j m) (h1 : Ret (d - 1) 102 [vR 0 0 0, vI (S 36 0 0 (i + 1))] S (some (vI r)) S1) (h2 : Ret (d - 1) 173 [vR 40 0 0, vI (S 36 0 0 (i + 1))] S1 (some (vI r)) S2) (hq : Wp d 266 1088 (Lf i) [] S2 Q) : Wp d 266 424 (Lf i) [] S Q := by
  have e36 : bROl S1 36 = bROl S 36 := by unfold bROl; rw [hk]
  have hn' : i + 7 ≤ bROl S1 36 := by rw [e36]; exact hn
  have hl' : bROl S1 36 < 2 ^ 31 := by rw [e36]; exact hl
  show Wp d 266 424 [some (vR 36 0 0), some (vR 0 0 0), some (vR 40 0 0), some (vI (nI i))] [] S Q
  refine (w_aload_n (show ins 266 424 = some (.aload_n 1, 1) from by decide +kernel) rfl (by decide)).mpr ?_
  refine (w_aload_n (show ins 266 425 = some (.aload_n 0, 1) from by decide +kernel) rfl (by decide)).mpr ?_
  refine (w_iload_n (show ins 266 426 = some (.iload_n 3, 1) from by decide +kernel) rfl).mpr ?_
  refine (w_iconst (x := 1) (show ins 266 427 = some (.iconst 1, 1) from by decide +kernel) (by decide)).mpr ?_
  refine (w_iadd (show ins 266 428 = some (.iadd, 1) from by decide +kernel)).mpr ?_
  refine (w_rald (k0 := 36) (n := i + 1) (show ins 266 429 = some (.iaload, 1) from by decide +kernel) rfl rfl (qI_add i 1).symm (by omega) hl).mpr ?_
  refine (w_callV (k0 := 0) (i0 := 0) (j0 := 0) (As := [vI (S 36 0 0 (i + 1))]) (st' := []) hd (show ins 266 430 = some (.invokevirtual 41, 3) from by decide +kernel) (show bck1 266 41 102 2 false = true from by decide +kernel) rfl rfl (Nat.le_of_ble_eq_true rfl) (by decide +kernel) (by decide) h1).mpr ?_
  refine (w_aload_n (show ins 266 433 = some (.aload_n 2, 1) from by decide +kernel) rfl (by decide)).mpr ?_
  refine (w_aload_n (show ins 266 434 = some (.aload_n 0, 1) from by decide +kernel) rfl (by decide)).mpr ?_
  refine (w_iload_n (show ins 266 435 = some (.iload_n 3, 1) from by decide +kernel) rfl).mpr ?_
  refine (w_iconst (x := 1) (show ins 266 436 = some (.iconst 1, 1) from by decide +kernel) (by decide)).mpr ?_
  refine (w_iadd (show ins 266 437 = some (.iadd, 1) from by decide +kernel)).mpr ?_
  refine (w_rald (k0 := 36) (n := i + 1) (show ins 266 438 = some (.iaload, 1) from by decide +kernel) rfl rfl (qI_add i 1).symm (by omega) hl').mpr ?_
  rw [hk 0 0 (i + 1)]
  refine (w_callV (k0 := 40) (i0 := 0) (j0 := 0) (As := [vI (S 36 0 0 (i + 1))]) (st' := [vI r]) hd (show ins 266 439 = some (.invokevirtual 44, 3) from by decide +kernel) (show bck1 266 44 173 2 false = true from by decide +kernel) rfl rfl (Nat.le_of_ble_eq_true rfl) (by decide +kernel) (by decide) h2).mpr ?_
  refine (w_icmpeq (t := 1088) (show ins 266 442 = some (.if_icmp .eq 646, 3) from by decide +kernel) (by decide)).mpr ?_
  rw [if_pos rfl]
  exact hq
theorem L_447 {d : Nat} {S S1 S2 : bSt} {Q : Option bV → bSt → Prop} {i : Nat} {r : Int32} (hd : 0 < d) (hn : i + 7 ≤ bROl S 36) (hl : bROl S 36 < 2 ^ 31) (hk : ∀ i' j m, S1 36 i' j m = S 36 i' j m) (h1 : Ret (d - 1) 103 [vR 0 0 0, vI (S 36 0 0 (i + 1))] S (some (vI r)) S1) (h2 : Ret (d - 1) 174 [vR 40 0 0, vI (S 36 0 0 (i + 1))] S1 (some (vI r)) S2) (hq : Wp d 266 1088 (Lf i) [] S2 Q) : Wp d 266 447 (Lf i) [] S Q := by
  have e36 : bROl S1 36 = bROl S 36 := by unfold bROl; rw [hk]
  have hn' : i + 7 ≤ bROl S1 36 := by rw [e36]; exact hn
  have hl' : bROl S1 36 < 2 ^ 31 := by rw [e36]; exact hl
  show Wp d 266 447 [some (vR 36 0 0), some (vR 0 0 0), some (vR 40 0 0), some (vI (nI i))] [] S Q
  refine (w_aload_n (show ins 266 447 = some (.aload_n 1, 1) from by decide +kernel) rfl (by decide)).mpr ?_
  refine (w_aload_n (show ins 266 448 = some (.aload_n 0, 1) from by decide +kernel) rfl (by decide)).mpr ?_
  refine (w_iload_n (show ins 266 449 = some (.iload_n 3, 1) from by decide +kernel) rfl).mpr ?_
  refine (w_iconst (x := 1) (show ins 266 450 = some (.iconst 1, 1) from by decide +kernel) (by decide)).mpr ?_
  refine (w_iadd (show ins 266 451 = some (.iadd, 1) from by decide +kernel)).mpr ?_
  refine (w_rald (k0 := 36) (n := i + 1) (show ins 266 452 = some (.iaload, 1) from by decide +kernel) rfl rfl (qI_add i 1).symm (by omega) hl).mpr ?_
  refine (w_callV (k0 := 0) (i0 := 0) (j0 := 0) (As := [vI (S 36 0 0 (i + 1))]) (st' := []) hd (show ins 266 453 = some (.invokevirtual 45, 3) from by decide +kernel) (show bck1 266 45 103 2 false = true from by decide +kernel) rfl rfl (Nat.le_of_ble_eq_true rfl) (by decide +kernel) (by decide) h1).mpr ?_
  refine (w_aload_n (show ins 266 456 = some (.aload_n 2, 1) from by decide +kernel) rfl (by decide)).mpr ?_
  refine (w_aload_n (show ins 266 457 = some (.aload_n 0, 1) from by decide +kernel) rfl (by decide)).mpr ?_
  refine (w_iload_n (show ins 266 458 = some (.iload_n 3, 1) from by decide +kernel) rfl).mpr ?_
  refine (w_iconst (x := 1) (show ins 266 459 = some (.iconst 1, 1) from by decide +kernel) (by decide)).mpr ?_
  refine (w_iadd (show ins 266 460 = some (.iadd, 1) from by decide +kernel)).mpr ?_
  refine (w_rald (k0 := 36) (n := i + 1) (show ins 266 461 = some (.iaload, 1) from by decide +kernel) rfl rfl (qI_add i 1).symm (by omega) hl').mpr ?_
  rw [hk 0 0 (i + 1)]
  refine (w_callV (k0 := 40) (i0 := 0) (j0 := 0) (As := [vI (S 36 0 0 (i + 1))]) (st' := [vI r]) hd (show ins 266 462 = some (.invokevirtual 48, 3) from by decide +kernel) (show bck1 266 48 174 2 false = true from by decide +kernel) rfl rfl (Nat.le_of_ble_eq_true rfl) (by decide +kernel) (by decide) h2).mpr ?_
  refine (w_icmpeq (t := 1088) (show ins 266 465 = some (.if_icmp .eq 623, 3) from by decide +kernel) (by decide)).mpr ?_
  rw [if_pos rfl]
  exact hq
theorem L_470 {d : Nat} {S S1 S2 : bSt} {Q : Option bV → bSt → Prop} {i : Nat} {r : Int32} (hd : 0 < d) (hn : i + 7 ≤ bROl S 36) (hl : bROl S 36 < 2 ^ 31) (hk : ∀ i' j m, S1 36 i' j m = S 36 i' j m) (h1 : Ret (d - 1) 104 [vR 0 0 0, vI (S 36 0 0 (i + 1)), vI (S 36 0 0 (i + 2))] S (some (vI r)) S1) (h2 : Ret (d - 1) 180 [vR 40 0 0, vI (S 36 0 0 (i + 1)), vI (S 36 0 0 (i + 2))] S1 (some (vI r)) S2) (hq : Wp d 266 1088 (Lf i) [] S2 Q) : Wp d 266 470 (Lf i) [] S Q := by
  have e36 : bROl S1 36 = bROl S 36 := by unfold bROl; rw [hk]
  have hn' : i + 7 ≤ bROl S1 36 := by rw [e36]; exact hn
  have hl' : bROl S1 36 < 2 ^ 31 := by rw [e36]; exact hl
  show Wp d 266 470 [some (vR 36 0 0), some (vR 0 0 0), some (vR 40 0 0), some (vI (nI i))] [] S Q
  refine (w_aload_n (show ins 266 470 = some (.aload_n 1, 1) from by decide +kernel) rfl (by decide)).mpr ?_
  refine (w_aload_n (show ins 266 471 = some (.aload_n 0, 1) from by decide +kernel) rfl (by decide)).mpr ?_
  refine (w_iload_n (show ins 266 472 = some (.iload_n 3, 1) from by decide +kernel) rfl).mpr ?_
  refine (w_iconst (x := 1) (show ins 266 473 = some (.iconst 1, 1) from by decide +kernel) (by decide)).mpr ?_
  refine (w_iadd (show ins 266 474 = some (.iadd, 1) from by decide +kernel)).mpr ?_
  refine (w_rald (k0 := 36) (n := i + 1) (show ins 266 475 = some (.iaload, 1) from by decide +kernel) rfl rfl (qI_add i 1).symm (by omega) hl).mpr ?_
  refine (w_aload_n (show ins 266 476 = some (.aload_n 0, 1) from by decide +kernel) rfl (by decide)).mpr ?_
  refine (w_iload_n (show ins 266 477 = some (.iload_n 3, 1) from by decide +kernel) rfl).mpr ?_
  refine (w_iconst (x := 2) (show ins 266 478 = some (.iconst 2, 1) from by decide +kernel) (by decide)).mpr ?_
  refine (w_iadd (show ins 266 479 = some (.iadd, 1) from by decide +kernel)).mpr ?_
  refine (w_rald (k0 := 36) (n := i + 2) (show ins 266 480 = some (.iaload, 1) from by decide +kernel) rfl rfl (qI_add i 2).symm (by omega) hl).mpr ?_
  refine (w_callV (k0 := 0) (i0 := 0) (j0 := 0) (As := [vI (S 36 0 0 (i + 1)), vI (S 36 0 0 (i + 2))]) (st' := []) hd (show ins 266 481 = some (.invokevirtual 49, 3) from by decide +kernel) (show bck1 266 49 104 3 false = true from by decide +kernel) rfl rfl (Nat.le_of_ble_eq_true rfl) (by decide +kernel) (by decide) h1).mpr ?_
  refine (w_aload_n (show ins 266 484 = some (.aload_n 2, 1) from by decide +kernel) rfl (by decide)).mpr ?_
  refine (w_aload_n (show ins 266 485 = some (.aload_n 0, 1) from by decide +kernel) rfl (by decide)).mpr ?_
  refine (w_iload_n (show ins 266 486 = some (.iload_n 3, 1) from by decide +kernel) rfl).mpr ?_
  refine (w_iconst (x := 1) (show ins 266 487 = some (.iconst 1, 1) from by decide +kernel) (by decide)).mpr ?_
  refine (w_iadd (show ins 266 488 = some (.iadd, 1) from by decide +kernel)).mpr ?_
  refine (w_rald (k0 := 36) (n := i + 1) (show ins 266 489 = some (.iaload, 1) from by decide +kernel) rfl rfl (qI_add i 1).symm (by omega) hl').mpr ?_
  rw [hk 0 0 (i + 1)]
  refine (w_aload_n (show ins 266 490 = some (.aload_n 0, 1) from by decide +kernel) rfl (by decide)).mpr ?_
  refine (w_iload_n (show ins 266 491 = some (.iload_n 3, 1) from by decide +kernel) rfl).mpr ?_
  refine (w_iconst (x := 2) (show ins 266 492 = some (.iconst 2, 1) from by decide +kernel) (by decide)).mpr ?_
  refine (w_iadd (show ins 266 493 = some (.iadd, 1) from by decide +kernel)).mpr ?_
  refine (w_rald (k0 := 36) (n := i + 2) (show ins 266 494 = some (.iaload, 1) from by decide +kernel) rfl rfl (qI_add i 2).symm (by omega) hl').mpr ?_
  rw [hk 0 0 (i + 2)]
  refine (w_callV (k0 := 40) (i0 := 0) (j0 := 0) (As := [vI (S 36 0 0 (i + 1)), vI (S 36 0 0 (i + 2))]) (st' := [vI r]) hd (show ins 266 495 = some (.invokevirtual 52, 3) from by decide +kernel) (show bck1 266 52 180 3 false = true from by decide +kernel) rfl rfl (Nat.le_of_ble_eq_true rfl) (by decide +kernel) (by decide) h2).mpr ?_
  refine (w_icmpeq (t := 1088) (show ins 266 498 = some (.if_icmp .eq 590, 3) from by decide +kernel) (by decide)).mpr ?_
  rw [if_pos rfl]
  exact hq
theorem L_503 {d : Nat} {S S1 S2 : bSt} {Q : Option bV → bSt → Prop} {i : Nat} {r : Int32} (hd : 0 < d) (hn : i + 7 ≤ bROl S 36) (hl : bROl S 36 < 2 ^ 31) (hk : ∀ i' j m, S1 36 i' j m = S 36 i' j m) (h1 : Ret (d - 1) 105 [vR 0 0 0, vI (S 36 0 0 (i + 1))] S (some (vI r)) S1) (h2 : Ret (d - 1) 181 [vR 40 0 0, vI (S 36 0 0 (i + 1))] S1 (some (vI r)) S2) (hq : Wp d 266 1088 (Lf i) [] S2 Q) : Wp d 266 503 (Lf i) [] S Q := by
  have e36 : bROl S1 36 = bROl S 36 := by unfold bROl; rw [hk]
  have hn' : i + 7 ≤ bROl S1 36 := by rw [e36]; exact hn
  have hl' : bROl S1 36 < 2 ^ 31 := by rw [e36]; exact hl
  show Wp d 266 503 [some (vR 36 0 0), some (vR 0 0 0), some (vR 40 0 0), some (vI (nI i))] [] S Q
  refine (w_aload_n (show ins 266 503 = some (.aload_n 1, 1) from by decide +kernel) rfl (by decide)).mpr ?_
  refine (w_aload_n (show ins 266 504 = some (.aload_n 0, 1) from by decide +kernel) rfl (by decide)).mpr ?_
  refine (w_iload_n (show ins 266 505 = some (.iload_n 3, 1) from by decide +kernel) rfl).mpr ?_
  refine (w_iconst (x := 1) (show ins 266 506 = some (.iconst 1, 1) from by decide +kernel) (by decide)).mpr ?_
  refine (w_iadd (show ins 266 507 = some (.iadd, 1) from by decide +kernel)).mpr ?_
  refine (w_rald (k0 := 36) (n := i + 1) (show ins 266 508 = some (.iaload, 1) from by decide +kernel) rfl rfl (qI_add i 1).symm (by omega) hl).mpr ?_
  refine (w_callV (k0 := 0) (i0 := 0) (j0 := 0) (As := [vI (S 36 0 0 (i + 1))]) (st' := []) hd (show ins 266 509 = some (.invokevirtual 53, 3) from by decide +kernel) (show bck1 266 53 105 2 false = true from by decide +kernel) rfl rfl (Nat.le_of_ble_eq_true rfl) (by decide +kernel) (by decide) h1).mpr ?_
  refine (w_aload_n (show ins 266 512 = some (.aload_n 2, 1) from by decide +kernel) rfl (by decide)).mpr ?_
  refine (w_aload_n (show ins 266 513 = some (.aload_n 0, 1) from by decide +kernel) rfl (by decide)).mpr ?_
  refine (w_iload_n (show ins 266 514 = some (.iload_n 3, 1) from by decide +kernel) rfl).mpr ?_
  refine (w_iconst (x := 1) (show ins 266 515 = some (.iconst 1, 1) from by decide +kernel) (by decide)).mpr ?_
  refine (w_iadd (show ins 266 516 = some (.iadd, 1) from by decide +kernel)).mpr ?_
  refine (w_rald (k0 := 36) (n := i + 1) (show ins 266 517 = some (.iaload, 1) from by decide +kernel) rfl rfl (qI_add i 1).symm (by omega) hl').mpr ?_
  rw [hk 0 0 (i + 1)]
  refine (w_callV (k0 := 40) (i0 := 0) (j0 := 0) (As := [vI (S 36 0 0 (i + 1))]) (st' := [vI r]) hd (show ins 266 518 = some (.invokevirtual 56, 3) from by decide +kernel) (show bck1 266 56 181 2 false = true from by decide +kernel) rfl rfl (Nat.le_of_ble_eq_true rfl) (by decide +kernel) (by decide) h2).mpr ?_
  refine (w_icmpeq (t := 1088) (show ins 266 521 = some (.if_icmp .eq 567, 3) from by decide +kernel) (by decide)).mpr ?_
  rw [if_pos rfl]
  exact hq
theorem L_526 {d : Nat} {S S1 S2 : bSt} {Q : Option bV → bSt → Prop} {i : Nat} {r : Int32} (hd : 0 < d) (hn : i + 7 ≤ bROl S 36) (hl : bROl S 36 < 2 ^ 31) (hk : ∀ i' j m, S1 36 i' j m = S 36 i' j m) (h1 : Ret (d - 1) 106 [vR 0 0 0, vI (S 36 0 0 (i + 1))] S (some (vI r)) S1) (h2 : Ret (d - 1) 182 [vR 40 0 0, vI (S 36 0 0 (i + 1))] S1 (some (vI r)) S2) (hq : Wp d 266 1088 (Lf i) [] S2 Q) : Wp d 266 526 (Lf i) [] S Q := by
  have e36 : bROl S1 36 = bROl S 36 := by unfold bROl; rw [hk]
  have hn' : i + 7 ≤ bROl S1 36 := by rw [e36]; exact hn
  have hl' : bROl S1 36 < 2 ^ 31 := by rw [e36]; exact hl
  show Wp d 266 526 [some (vR 36 0 0), some (vR 0 0 0), some (vR 40 0 0), some (vI (nI i))] [] S Q
  refine (w_aload_n (show ins 266 526 = some (.aload_n 1, 1) from by decide +kernel) rfl (by decide)).mpr ?_
  refine (w_aload_n (show ins 266 527 = some (.aload_n 0, 1) from by decide +kernel) rfl (by decide)).mpr ?_
  refine (w_iload_n (show ins 266 528 = some (.iload_n 3, 1) from by decide +kernel) rfl).mpr ?_
  refine (w_iconst (x := 1) (show ins 266 529 = some (.iconst 1, 1) from by decide +kernel) (by decide)).mpr ?_
  refine (w_iadd (show ins 266 530 = some (.iadd, 1) from by decide +kernel)).mpr ?_
  refine (w_rald (k0 := 36) (n := i + 1) (show ins 266 531 = some (.iaload, 1) from by decide +kernel) rfl rfl (qI_add i 1).symm (by omega) hl).mpr ?_
  refine (w_callV (k0 := 0) (i0 := 0) (j0 := 0) (As := [vI (S 36 0 0 (i + 1))]) (st' := []) hd (show ins 266 532 = some (.invokevirtual 57, 3) from by decide +kernel) (show bck1 266 57 106 2 false = true from by decide +kernel) rfl rfl (Nat.le_of_ble_eq_true rfl) (by decide +kernel) (by decide) h1).mpr ?_
  refine (w_aload_n (show ins 266 535 = some (.aload_n 2, 1) from by decide +kernel) rfl (by decide)).mpr ?_
  refine (w_aload_n (show ins 266 536 = some (.aload_n 0, 1) from by decide +kernel) rfl (by decide)).mpr ?_
  refine (w_iload_n (show ins 266 537 = some (.iload_n 3, 1) from by decide +kernel) rfl).mpr ?_
  refine (w_iconst (x := 1) (show ins 266 538 = some (.iconst 1, 1) from by decide +kernel) (by decide)).mpr ?_
  refine (w_iadd (show ins 266 539 = some (.iadd, 1) from by decide +kernel)).mpr ?_
  refine (w_rald (k0 := 36) (n := i + 1) (show ins 266 540 = some (.iaload, 1) from by decide +kernel) rfl rfl (qI_add i 1).symm (by omega) hl').mpr ?_
  rw [hk 0 0 (i + 1)]
  refine (w_callV (k0 := 40) (i0 := 0) (j0 := 0) (As := [vI (S 36 0 0 (i + 1))]) (st' := [vI r]) hd (show ins 266 541 = some (.invokevirtual 60, 3) from by decide +kernel) (show bck1 266 60 182 2 false = true from by decide +kernel) rfl rfl (Nat.le_of_ble_eq_true rfl) (by decide +kernel) (by decide) h2).mpr ?_
  refine (w_icmpeq (t := 1088) (show ins 266 544 = some (.if_icmp .eq 544, 3) from by decide +kernel) (by decide)).mpr ?_
  rw [if_pos rfl]
  exact hq
theorem L_549 {d : Nat} {S S1 S2 : bSt} {Q : Option bV → bSt → Prop} {i : Nat} {r : Int32} (hd : 0 < d) (hn : i + 7 ≤ bROl S 36) (hl : bROl S 36 < 2 ^ 31) (hk : ∀ i' j m, S1 36 i' j m = S 36 i' j m) (h1 : Ret (d - 1) 107 [vR 0 0 0, vI (S 36 0 0 (i + 1)), vI (S 36 0 0 (i + 2))] S (some (vI r)) S1) (h2 : Ret (d - 1) 193 [vR 40 0 0, vI (S 36 0 0 (i + 1)), vI (S 36 0 0 (i + 2))] S1 (some (vI r)) S2) (hq : Wp d 266 1088 (Lf i) [] S2 Q) : Wp d 266 549 (Lf i) [] S Q := by
  have e36 : bROl S1 36 = bROl S 36 := by unfold bROl; rw [hk]
  have hn' : i + 7 ≤ bROl S1 36 := by rw [e36]; exact hn
  have hl' : bROl S1 36 < 2 ^ 31 := by rw [e36]; exact hl
  show Wp d 266 549 [some (vR 36 0 0), some (vR 0 0 0), some (vR 40 0 0), some (vI (nI i))] [] S Q
  refine (w_aload_n (show ins 266 549 = some (.aload_n 1, 1) from by decide +kernel) rfl (by decide)).mpr ?_
  refine (w_aload_n (show ins 266 550 = some (.aload_n 0, 1) from by decide +kernel) rfl (by decide)).mpr ?_
  refine (w_iload_n (show ins 266 551 = some (.iload_n 3, 1) from by decide +kernel) rfl).mpr ?_
  refine (w_iconst (x := 1) (show ins 266 552 = some (.iconst 1, 1) from by decide +kernel) (by decide)).mpr ?_
  refine (w_iadd (show ins 266 553 = some (.iadd, 1) from by decide +kernel)).mpr ?_
  refine (w_rald (k0 := 36) (n := i + 1) (show ins 266 554 = some (.iaload, 1) from by decide +kernel) rfl rfl (qI_add i 1).symm (by omega) hl).mpr ?_
  refine (w_aload_n (show ins 266 555 = some (.aload_n 0, 1) from by decide +kernel) rfl (by decide)).mpr ?_
  refine (w_iload_n (show ins 266 556 = some (.iload_n 3, 1) from by decide +kernel) rfl).mpr ?_
  refine (w_iconst (x := 2) (show ins 266 557 = some (.iconst 2, 1) from by decide +kernel) (by decide)).mpr ?_
  refine (w_iadd (show ins 266 558 = some (.iadd, 1) from by decide +kernel)).mpr ?_
  refine (w_rald (k0 := 36) (n := i + 2) (show ins 266 559 = some (.iaload, 1) from by decide +kernel) rfl rfl (qI_add i 2).symm (by omega) hl).mpr ?_
  refine (w_callV (k0 := 0) (i0 := 0) (j0 := 0) (As := [vI (S 36 0 0 (i + 1)), vI (S 36 0 0 (i + 2))]) (st' := []) hd (show ins 266 560 = some (.invokevirtual 61, 3) from by decide +kernel) (show bck1 266 61 107 3 false = true from by decide +kernel) rfl rfl (Nat.le_of_ble_eq_true rfl) (by decide +kernel) (by decide) h1).mpr ?_
  refine (w_aload_n (show ins 266 563 = some (.aload_n 2, 1) from by decide +kernel) rfl (by decide)).mpr ?_
  refine (w_aload_n (show ins 266 564 = some (.aload_n 0, 1) from by decide +kernel) rfl (by decide)).mpr ?_
  refine (w_iload_n (show ins 266 565 = some (.iload_n 3, 1) from by decide +kernel) rfl).mpr ?_
  refine (w_iconst (x := 1) (show ins 266 566 = some (.iconst 1, 1) from by decide +kernel) (by decide)).mpr ?_
  refine (w_iadd (show ins 266 567 = some (.iadd, 1) from by decide +kernel)).mpr ?_
  refine (w_rald (k0 := 36) (n := i + 1) (show ins 266 568 = some (.iaload, 1) from by decide +kernel) rfl rfl (qI_add i 1).symm (by omega) hl').mpr ?_
  rw [hk 0 0 (i + 1)]
  refine (w_aload_n (show ins 266 569 = some (.aload_n 0, 1) from by decide +kernel) rfl (by decide)).mpr ?_
  refine (w_iload_n (show ins 266 570 = some (.iload_n 3, 1) from by decide +kernel) rfl).mpr ?_
  refine (w_iconst (x := 2) (show ins 266 571 = some (.iconst 2, 1) from by decide +kernel) (by decide)).mpr ?_
  refine (w_iadd (show ins 266 572 = some (.iadd, 1) from by decide +kernel)).mpr ?_
  refine (w_rald (k0 := 36) (n := i + 2) (show ins 266 573 = some (.iaload, 1) from by decide +kernel) rfl rfl (qI_add i 2).symm (by omega) hl').mpr ?_
  rw [hk 0 0 (i + 2)]
  refine (w_callV (k0 := 40) (i0 := 0) (j0 := 0) (As := [vI (S 36 0 0 (i + 1)), vI (S 36 0 0 (i + 2))]) (st' := [vI r]) hd (show ins 266 574 = some (.invokevirtual 64, 3) from by decide +kernel) (show bck1 266 64 193 3 false = true from by decide +kernel) rfl rfl (Nat.le_of_ble_eq_true rfl) (by decide +kernel) (by decide) h2).mpr ?_
  refine (w_icmpeq (t := 1088) (show ins 266 577 = some (.if_icmp .eq 511, 3) from by decide +kernel) (by decide)).mpr ?_
  rw [if_pos rfl]
  exact hq
theorem L_582 {d : Nat} {S S1 S2 : bSt} {Q : Option bV → bSt → Prop} {i : Nat} {r : Int32} (hd : 0 < d) (hn : i + 7 ≤ bROl S 36) (hl : bROl S 36 < 2 ^ 31) (hk : ∀ i' j m, S1 36 i' j m = S 36 i' j m) (h1 : Ret (d - 1) 108 [vR 0 0 0, vI (S 36 0 0 (i + 1))] S (some (vI r)) S1) (h2 : Ret (d - 1) 196 [vR 40 0 0, vI (S 36 0 0 (i + 1))] S1 (some (vI r)) S2) (hq : Wp d 266 1088 (Lf i) [] S2 Q) : Wp d 266 582 (Lf i) [] S Q := by
  have e36 : bROl S1 36 = bROl S 36 := by unfold bROl; rw [hk]
  have hn' : i + 7 ≤ bROl S1 36 := by rw [e36]; exact hn
  have hl' : bROl S1 36 < 2 ^ 31 := by rw [e36]; exact hl
  show Wp d 266 582 [some (vR 36 0 0), some (vR 0 0 0), some (vR 40 0 0), some (vI (nI i))] [] S Q
  refine (w_aload_n (show ins 266 582 = some (.aload_n 1, 1) from by decide +kernel) rfl (by decide)).mpr ?_
  refine (w_aload_n (show ins 266 583 = some (.aload_n 0, 1) from by decide +kernel) rfl (by decide)).mpr ?_
  refine (w_iload_n (show ins 266 584 = some (.iload_n 3, 1) from by decide +kernel) rfl).mpr ?_
  refine (w_iconst (x := 1) (show ins 266 585 = some (.iconst 1, 1) from by decide +kernel) (by decide)).mpr ?_
  refine (w_iadd (show ins 266 586 = some (.iadd, 1) from by decide +kernel)).mpr ?_
  refine (w_rald (k0 := 36) (n := i + 1) (show ins 266 587 = some (.iaload, 1) from by decide +kernel) rfl rfl (qI_add i 1).symm (by omega) hl).mpr ?_
  refine (w_callV (k0 := 0) (i0 := 0) (j0 := 0) (As := [vI (S 36 0 0 (i + 1))]) (st' := []) hd (show ins 266 588 = some (.invokevirtual 65, 3) from by decide +kernel) (show bck1 266 65 108 2 false = true from by decide +kernel) rfl rfl (Nat.le_of_ble_eq_true rfl) (by decide +kernel) (by decide) h1).mpr ?_
  refine (w_aload_n (show ins 266 591 = some (.aload_n 2, 1) from by decide +kernel) rfl (by decide)).mpr ?_
  refine (w_aload_n (show ins 266 592 = some (.aload_n 0, 1) from by decide +kernel) rfl (by decide)).mpr ?_
  refine (w_iload_n (show ins 266 593 = some (.iload_n 3, 1) from by decide +kernel) rfl).mpr ?_
  refine (w_iconst (x := 1) (show ins 266 594 = some (.iconst 1, 1) from by decide +kernel) (by decide)).mpr ?_
  refine (w_iadd (show ins 266 595 = some (.iadd, 1) from by decide +kernel)).mpr ?_
  refine (w_rald (k0 := 36) (n := i + 1) (show ins 266 596 = some (.iaload, 1) from by decide +kernel) rfl rfl (qI_add i 1).symm (by omega) hl').mpr ?_
  rw [hk 0 0 (i + 1)]
  refine (w_callV (k0 := 40) (i0 := 0) (j0 := 0) (As := [vI (S 36 0 0 (i + 1))]) (st' := [vI r]) hd (show ins 266 597 = some (.invokevirtual 68, 3) from by decide +kernel) (show bck1 266 68 196 2 false = true from by decide +kernel) rfl rfl (Nat.le_of_ble_eq_true rfl) (by decide +kernel) (by decide) h2).mpr ?_
  refine (w_icmpeq (t := 1088) (show ins 266 600 = some (.if_icmp .eq 488, 3) from by decide +kernel) (by decide)).mpr ?_
  rw [if_pos rfl]
  exact hq
theorem L_605 {d : Nat} {S S1 S2 : bSt} {Q : Option bV → bSt → Prop} {i : Nat} {r : Int32} (hd : 0 < d) (hn : i + 7 ≤ bROl S 36) (hl : bROl S 36 < 2 ^ 31) (hk : ∀ i' j m, S1 36 i' j m = S 36 i' j m) (h1 : Ret (d - 1) 109 [vR 0 0 0] S (some (vI r)) S1) (h2 : Ret (d - 1) 199 [vR 40 0 0] S1 (some (vI r)) S2) (hq : Wp d 266 1088 (Lf i) [] S2 Q) : Wp d 266 605 (Lf i) [] S Q := by
  have e36 : bROl S1 36 = bROl S 36 := by unfold bROl; rw [hk]
  have hn' : i + 7 ≤ bROl S1 36 := by rw [e36]; exact hn
  have hl' : bROl S1 36 < 2 ^ 31 := by rw [e36]; exact hl
  show Wp d 266 605 [some (vR 36 0 0), some (vR 0 0 0), some (vR 40 0 0), some (vI (nI i))] [] S Q
  refine (w_aload_n (show ins 266 605 = some (.aload_n 1, 1) from by decide +kernel) rfl (by decide)).mpr ?_
  refine (w_callV (k0 := 0) (i0 := 0) (j0 := 0) (As := []) (st' := []) hd (show ins 266 606 = some (.invokevirtual 69, 3) from by decide +kernel) (show bck1 266 69 109 1 false = true from by decide +kernel) rfl rfl (Nat.le_of_ble_eq_true rfl) (by decide +kernel) (by decide) h1).mpr ?_
  refine (w_aload_n (show ins 266 609 = some (.aload_n 2, 1) from by decide +kernel) rfl (by decide)).mpr ?_
  refine (w_callV (k0 := 40) (i0 := 0) (j0 := 0) (As := []) (st' := [vI r]) hd (show ins 266 610 = some (.invokevirtual 73, 3) from by decide +kernel) (show bck1 266 73 199 1 false = true from by decide +kernel) rfl rfl (Nat.le_of_ble_eq_true rfl) (by decide +kernel) (by decide) h2).mpr ?_
  refine (w_icmpeq (t := 1088) (show ins 266 613 = some (.if_icmp .eq 475, 3) from by decide +kernel) (by decide)).mpr ?_
  rw [if_pos rfl]
  exact hq
theorem L_618 {d : Nat} {S S1 S2 : bSt} {Q : Option bV → bSt → Prop} {i : Nat} {r : Int32} (hd : 0 < d) (hn : i + 7 ≤ bROl S 36) (hl : bROl S 36 < 2 ^ 31) (hk : ∀ i' j m, S1 36 i' j m = S 36 i' j m) (h1 : Ret (d - 1) 110 [vR 0 0 0, vI (S 36 0 0 (i + 1))] S (some (vI r)) S1) (h2 : Ret (d - 1) 200 [vR 40 0 0, vI (S 36 0 0 (i + 1))] S1 (some (vI r)) S2) (hq : Wp d 266 1088 (Lf i) [] S2 Q) : Wp d 266 618 (Lf i) [] S Q := by
  have e36 : bROl S1 36 = bROl S 36 := by unfold bROl; rw [hk]
  have hn' : i + 7 ≤ bROl S1 36 := by rw [e36]; exact hn
  have hl' : bROl S1 36 < 2 ^ 31 := by rw [e36]; exact hl
  show Wp d 266 618 [some (vR 36 0 0), some (vR 0 0 0), some (vR 40 0 0), some (vI (nI i))] [] S Q
  refine (w_aload_n (show ins 266 618 = some (.aload_n 1, 1) from by decide +kernel) rfl (by decide)).mpr ?_
  refine (w_aload_n (show ins 266 619 = some (.aload_n 0, 1) from by decide +kernel) rfl (by decide)).mpr ?_
  refine (w_iload_n (show ins 266 620 = some (.iload_n 3, 1) from by decide +kernel) rfl).mpr ?_
  refine (w_iconst (x := 1) (show ins 266 621 = some (.iconst 1, 1) from by decide +kernel) (by decide)).mpr ?_
  refine (w_iadd (show ins 266 622 = some (.iadd, 1) from by decide +kernel)).mpr ?_
  refine (w_rald (k0 := 36) (n := i + 1) (show ins 266 623 = some (.iaload, 1) from by decide +kernel) rfl rfl (qI_add i 1).symm (by omega) hl).mpr ?_
  refine (w_callV (k0 := 0) (i0 := 0) (j0 := 0) (As := [vI (S 36 0 0 (i + 1))]) (st' := []) hd (show ins 266 624 = some (.invokevirtual 74, 3) from by decide +kernel) (show bck1 266 74 110 2 false = true from by decide +kernel) rfl rfl (Nat.le_of_ble_eq_true rfl) (by decide +kernel) (by decide) h1).mpr ?_
  refine (w_aload_n (show ins 266 627 = some (.aload_n 2, 1) from by decide +kernel) rfl (by decide)).mpr ?_
  refine (w_aload_n (show ins 266 628 = some (.aload_n 0, 1) from by decide +kernel) rfl (by decide)).mpr ?_
  refine (w_iload_n (show ins 266 629 = some (.iload_n 3, 1) from by decide +kernel) rfl).mpr ?_
  refine (w_iconst (x := 1) (show ins 266 630 = some (.iconst 1, 1) from by decide +kernel) (by decide)).mpr ?_
  refine (w_iadd (show ins 266 631 = some (.iadd, 1) from by decide +kernel)).mpr ?_
  refine (w_rald (k0 := 36) (n := i + 1) (show ins 266 632 = some (.iaload, 1) from by decide +kernel) rfl rfl (qI_add i 1).symm (by omega) hl').mpr ?_
  rw [hk 0 0 (i + 1)]
  refine (w_callV (k0 := 40) (i0 := 0) (j0 := 0) (As := [vI (S 36 0 0 (i + 1))]) (st' := [vI r]) hd (show ins 266 633 = some (.invokevirtual 77, 3) from by decide +kernel) (show bck1 266 77 200 2 false = true from by decide +kernel) rfl rfl (Nat.le_of_ble_eq_true rfl) (by decide +kernel) (by decide) h2).mpr ?_
  refine (w_icmpeq (t := 1088) (show ins 266 636 = some (.if_icmp .eq 452, 3) from by decide +kernel) (by decide)).mpr ?_
  rw [if_pos rfl]
  exact hq
theorem L_641 {d : Nat} {S S1 S2 : bSt} {Q : Option bV → bSt → Prop} {i : Nat} {r : Int32} (hd : 0 < d) (hn : i + 7 ≤ bROl S 36) (hl : bROl S 36 < 2 ^ 31) (hk : ∀ i' j m, S1 36 i' j m = S 36 i' j m) (h1 : Ret (d - 1) 111 [vR 0 0 0, vI (S 36 0 0 (i + 1)), vI (S 36 0 0 (i + 2))] S (some (vI r)) S1) (h2 : Ret (d - 1) 216 [vR 40 0 0, vI (S 36 0 0 (i + 1)), vI (S 36 0 0 (i + 2))] S1 (some (vI r)) S2) (hq : Wp d 266 1088 (Lf i) [] S2 Q) : Wp d 266 641 (Lf i) [] S Q := by
  have e36 : bROl S1 36 = bROl S 36 := by unfold bROl; rw [hk]
  have hn' : i + 7 ≤ bROl S1 36 := by rw [e36]; exact hn
  have hl' : bROl S1 36 < 2 ^ 31 := by rw [e36]; exact hl
  show Wp d 266 641 [some (vR 36 0 0), some (vR 0 0 0), some (vR 40 0 0), some (vI (nI i))] [] S Q
  refine (w_aload_n (show ins 266 641 = some (.aload_n 1, 1) from by decide +kernel) rfl (by decide)).mpr ?_
  refine (w_aload_n (show ins 266 642 = some (.aload_n 0, 1) from by decide +kernel) rfl (by decide)).mpr ?_
  refine (w_iload_n (show ins 266 643 = some (.iload_n 3, 1) from by decide +kernel) rfl).mpr ?_
  refine (w_iconst (x := 1) (show ins 266 644 = some (.iconst 1, 1) from by decide +kernel) (by decide)).mpr ?_
  refine (w_iadd (show ins 266 645 = some (.iadd, 1) from by decide +kernel)).mpr ?_
  refine (w_rald (k0 := 36) (n := i + 1) (show ins 266 646 = some (.iaload, 1) from by decide +kernel) rfl rfl (qI_add i 1).symm (by omega) hl).mpr ?_
  refine (w_aload_n (show ins 266 647 = some (.aload_n 0, 1) from by decide +kernel) rfl (by decide)).mpr ?_
  refine (w_iload_n (show ins 266 648 = some (.iload_n 3, 1) from by decide +kernel) rfl).mpr ?_
  refine (w_iconst (x := 2) (show ins 266 649 = some (.iconst 2, 1) from by decide +kernel) (by decide)).mpr ?_
  refine (w_iadd (show ins 266 650 = some (.iadd, 1) from by decide +kernel)).mpr ?_
  refine (w_rald (k0 := 36) (n := i + 2) (show ins 266 651 = some (.iaload, 1) from by decide +kernel) rfl rfl (qI_add i 2).symm (by omega) hl).mpr ?_
  refine (w_callV (k0 := 0) (i0 := 0) (j0 := 0) (As := [vI (S 36 0 0 (i + 1)), vI (S 36 0 0 (i + 2))]) (st' := []) hd (show ins 266 652 = some (.invokevirtual 78, 3) from by decide +kernel) (show bck1 266 78 111 3 false = true from by decide +kernel) rfl rfl (Nat.le_of_ble_eq_true rfl) (by decide +kernel) (by decide) h1).mpr ?_
  refine (w_aload_n (show ins 266 655 = some (.aload_n 2, 1) from by decide +kernel) rfl (by decide)).mpr ?_
  refine (w_aload_n (show ins 266 656 = some (.aload_n 0, 1) from by decide +kernel) rfl (by decide)).mpr ?_
  refine (w_iload_n (show ins 266 657 = some (.iload_n 3, 1) from by decide +kernel) rfl).mpr ?_
  refine (w_iconst (x := 1) (show ins 266 658 = some (.iconst 1, 1) from by decide +kernel) (by decide)).mpr ?_
  refine (w_iadd (show ins 266 659 = some (.iadd, 1) from by decide +kernel)).mpr ?_
  refine (w_rald (k0 := 36) (n := i + 1) (show ins 266 660 = some (.iaload, 1) from by decide +kernel) rfl rfl (qI_add i 1).symm (by omega) hl').mpr ?_
  rw [hk 0 0 (i + 1)]
  refine (w_aload_n (show ins 266 661 = some (.aload_n 0, 1) from by decide +kernel) rfl (by decide)).mpr ?_
  refine (w_iload_n (show ins 266 662 = some (.iload_n 3, 1) from by decide +kernel) rfl).mpr ?_
  refine (w_iconst (x := 2) (show ins 266 663 = some (.iconst 2, 1) from by decide +kernel) (by decide)).mpr ?_
  refine (w_iadd (show ins 266 664 = some (.iadd, 1) from by decide +kernel)).mpr ?_
  refine (w_rald (k0 := 36) (n := i + 2) (show ins 266 665 = some (.iaload, 1) from by decide +kernel) rfl rfl (qI_add i 2).symm (by omega) hl').mpr ?_
  rw [hk 0 0 (i + 2)]
  refine (w_callV (k0 := 40) (i0 := 0) (j0 := 0) (As := [vI (S 36 0 0 (i + 1)), vI (S 36 0 0 (i + 2))]) (st' := [vI r]) hd (show ins 266 666 = some (.invokevirtual 81, 3) from by decide +kernel) (show bck1 266 81 216 3 false = true from by decide +kernel) rfl rfl (Nat.le_of_ble_eq_true rfl) (by decide +kernel) (by decide) h2).mpr ?_
  refine (w_icmpeq (t := 1088) (show ins 266 669 = some (.if_icmp .eq 419, 3) from by decide +kernel) (by decide)).mpr ?_
  rw [if_pos rfl]
  exact hq
theorem L_674 {d : Nat} {S S1 S2 : bSt} {Q : Option bV → bSt → Prop} {i : Nat} {r : Int32} (hd : 0 < d) (hn : i + 7 ≤ bROl S 36) (hl : bROl S 36 < 2 ^ 31) (hk : ∀ i' j m, S1 36 i' j m = S 36 i' j m) (h1 : Ret (d - 1) 112 [vR 0 0 0, vI (S 36 0 0 (i + 1)), vI (S 36 0 0 (i + 2))] S (some (vI r)) S1) (h2 : Ret (d - 1) 217 [vR 40 0 0, vI (S 36 0 0 (i + 1)), vI (S 36 0 0 (i + 2))] S1 (some (vI r)) S2) (hq : Wp d 266 1088 (Lf i) [] S2 Q) : Wp d 266 674 (Lf i) [] S Q := by
  have e36 : bROl S1 36 = bROl S 36 := by unfold bROl; rw [hk]
  have hn' : i + 7 ≤ bROl S1 36 := by rw [e36]; exact hn
  have hl' : bROl S1 36 < 2 ^ 31 := by rw [e36]; exact hl
  show Wp d 266 674 [some (vR 36 0 0), some (vR 0 0 0), some (vR 40 0 0), some (vI (nI i))] [] S Q
  refine (w_aload_n (show ins 266 674 = some (.aload_n 1, 1) from by decide +kernel) rfl (by decide)).mpr ?_
  refine (w_aload_n (show ins 266 675 = some (.aload_n 0, 1) from by decide +kernel) rfl (by decide)).mpr ?_
  refine (w_iload_n (show ins 266 676 = some (.iload_n 3, 1) from by decide +kernel) rfl).mpr ?_
  refine (w_iconst (x := 1) (show ins 266 677 = some (.iconst 1, 1) from by decide +kernel) (by decide)).mpr ?_
  refine (w_iadd (show ins 266 678 = some (.iadd, 1) from by decide +kernel)).mpr ?_
  refine (w_rald (k0 := 36) (n := i + 1) (show ins 266 679 = some (.iaload, 1) from by decide +kernel) rfl rfl (qI_add i 1).symm (by omega) hl).mpr ?_
  refine (w_aload_n (show ins 266 680 = some (.aload_n 0, 1) from by decide +kernel) rfl (by decide)).mpr ?_
  refine (w_iload_n (show ins 266 681 = some (.iload_n 3, 1) from by decide +kernel) rfl).mpr ?_
  refine (w_iconst (x := 2) (show ins 266 682 = some (.iconst 2, 1) from by decide +kernel) (by decide)).mpr ?_
  refine (w_iadd (show ins 266 683 = some (.iadd, 1) from by decide +kernel)).mpr ?_
  refine (w_rald (k0 := 36) (n := i + 2) (show ins 266 684 = some (.iaload, 1) from by decide +kernel) rfl rfl (qI_add i 2).symm (by omega) hl).mpr ?_
  refine (w_callV (k0 := 0) (i0 := 0) (j0 := 0) (As := [vI (S 36 0 0 (i + 1)), vI (S 36 0 0 (i + 2))]) (st' := []) hd (show ins 266 685 = some (.invokevirtual 82, 3) from by decide +kernel) (show bck1 266 82 112 3 false = true from by decide +kernel) rfl rfl (Nat.le_of_ble_eq_true rfl) (by decide +kernel) (by decide) h1).mpr ?_
  refine (w_aload_n (show ins 266 688 = some (.aload_n 2, 1) from by decide +kernel) rfl (by decide)).mpr ?_
  refine (w_aload_n (show ins 266 689 = some (.aload_n 0, 1) from by decide +kernel) rfl (by decide)).mpr ?_
  refine (w_iload_n (show ins 266 690 = some (.iload_n 3, 1) from by decide +kernel) rfl).mpr ?_
  refine (w_iconst (x := 1) (show ins 266 691 = some (.iconst 1, 1) from by decide +kernel) (by decide)).mpr ?_
  refine (w_iadd (show ins 266 692 = some (.iadd, 1) from by decide +kernel)).mpr ?_
  refine (w_rald (k0 := 36) (n := i + 1) (show ins 266 693 = some (.iaload, 1) from by decide +kernel) rfl rfl (qI_add i 1).symm (by omega) hl').mpr ?_
  rw [hk 0 0 (i + 1)]
  refine (w_aload_n (show ins 266 694 = some (.aload_n 0, 1) from by decide +kernel) rfl (by decide)).mpr ?_
  refine (w_iload_n (show ins 266 695 = some (.iload_n 3, 1) from by decide +kernel) rfl).mpr ?_
  refine (w_iconst (x := 2) (show ins 266 696 = some (.iconst 2, 1) from by decide +kernel) (by decide)).mpr ?_
  refine (w_iadd (show ins 266 697 = some (.iadd, 1) from by decide +kernel)).mpr ?_
  refine (w_rald (k0 := 36) (n := i + 2) (show ins 266 698 = some (.iaload, 1) from by decide +kernel) rfl rfl (qI_add i 2).symm (by omega) hl').mpr ?_
  rw [hk 0 0 (i + 2)]
  refine (w_callV (k0 := 40) (i0 := 0) (j0 := 0) (As := [vI (S 36 0 0 (i + 1)), vI (S 36 0 0 (i + 2))]) (st' := [vI r]) hd (show ins 266 699 = some (.invokevirtual 85, 3) from by decide +kernel) (show bck1 266 85 217 3 false = true from by decide +kernel) rfl rfl (Nat.le_of_ble_eq_true rfl) (by decide +kernel) (by decide) h2).mpr ?_
  refine (w_icmpeq (t := 1088) (show ins 266 702 = some (.if_icmp .eq 386, 3) from by decide +kernel) (by decide)).mpr ?_
  rw [if_pos rfl]
  exact hq
theorem L_707 {d : Nat} {S S1 S2 : bSt} {Q : Option bV → bSt → Prop} {i : Nat} {r : Int32} (hd : 0 < d) (hn : i + 7 ≤ bROl S 36) (hl : bROl S 36 < 2 ^ 31) (hk : ∀ i' j m, S1 36 i' j m = S 36 i' j m) (h1 : Ret (d - 1) 113 [vR 0 0 0, vI (S 36 0 0 (i + 1)), vI (S 36 0 0 (i + 2))] S (some (vI r)) S1) (h2 : Ret (d - 1) 218 [vR 40 0 0, vI (S 36 0 0 (i + 1)), vI (S 36 0 0 (i + 2))] S1 (some (vI r)) S2) (hq : Wp d 266 1088 (Lf i) [] S2 Q) : Wp d 266 707 (Lf i) [] S Q := by
  have e36 : bROl S1 36 = bROl S 36 := by unfold bROl; rw [hk]
  have hn' : i + 7 ≤ bROl S1 36 := by rw [e36]; exact hn
  have hl' : bROl S1 36 < 2 ^ 31 := by rw [e36]; exact hl
  show Wp d 266 707 [some (vR 36 0 0), some (vR 0 0 0), some (vR 40 0 0), some (vI (nI i))] [] S Q
  refine (w_aload_n (show ins 266 707 = some (.aload_n 1, 1) from by decide +kernel) rfl (by decide)).mpr ?_
  refine (w_aload_n (show ins 266 708 = some (.aload_n 0, 1) from by decide +kernel) rfl (by decide)).mpr ?_
  refine (w_iload_n (show ins 266 709 = some (.iload_n 3, 1) from by decide +kernel) rfl).mpr ?_
  refine (w_iconst (x := 1) (show ins 266 710 = some (.iconst 1, 1) from by decide +kernel) (by decide)).mpr ?_
  refine (w_iadd (show ins 266 711 = some (.iadd, 1) from by decide +kernel)).mpr ?_
  refine (w_rald (k0 := 36) (n := i + 1) (show ins 266 712 = some (.iaload, 1) from by decide +kernel) rfl rfl (qI_add i 1).symm (by omega) hl).mpr ?_
  refine (w_aload_n (show ins 266 713 = some (.aload_n 0, 1) from by decide +kernel) rfl (by decide)).mpr ?_
  refine (w_iload_n (show ins 266 714 = some (.iload_n 3, 1) from by decide +kernel) rfl).mpr ?_
  refine (w_iconst (x := 2) (show ins 266 715 = some (.iconst 2, 1) from by decide +kernel) (by decide)).mpr ?_
  refine (w_iadd (show ins 266 716 = some (.iadd, 1) from by decide +kernel)).mpr ?_
  refine (w_rald (k0 := 36) (n := i + 2) (show ins 266 717 = some (.iaload, 1) from by decide +kernel) rfl rfl (qI_add i 2).symm (by omega) hl).mpr ?_
  refine (w_callV (k0 := 0) (i0 := 0) (j0 := 0) (As := [vI (S 36 0 0 (i + 1)), vI (S 36 0 0 (i + 2))]) (st' := []) hd (show ins 266 718 = some (.invokevirtual 86, 3) from by decide +kernel) (show bck1 266 86 113 3 false = true from by decide +kernel) rfl rfl (Nat.le_of_ble_eq_true rfl) (by decide +kernel) (by decide) h1).mpr ?_
  refine (w_aload_n (show ins 266 721 = some (.aload_n 2, 1) from by decide +kernel) rfl (by decide)).mpr ?_
  refine (w_aload_n (show ins 266 722 = some (.aload_n 0, 1) from by decide +kernel) rfl (by decide)).mpr ?_
  refine (w_iload_n (show ins 266 723 = some (.iload_n 3, 1) from by decide +kernel) rfl).mpr ?_
  refine (w_iconst (x := 1) (show ins 266 724 = some (.iconst 1, 1) from by decide +kernel) (by decide)).mpr ?_
  refine (w_iadd (show ins 266 725 = some (.iadd, 1) from by decide +kernel)).mpr ?_
  refine (w_rald (k0 := 36) (n := i + 1) (show ins 266 726 = some (.iaload, 1) from by decide +kernel) rfl rfl (qI_add i 1).symm (by omega) hl').mpr ?_
  rw [hk 0 0 (i + 1)]
  refine (w_aload_n (show ins 266 727 = some (.aload_n 0, 1) from by decide +kernel) rfl (by decide)).mpr ?_
  refine (w_iload_n (show ins 266 728 = some (.iload_n 3, 1) from by decide +kernel) rfl).mpr ?_
  refine (w_iconst (x := 2) (show ins 266 729 = some (.iconst 2, 1) from by decide +kernel) (by decide)).mpr ?_
  refine (w_iadd (show ins 266 730 = some (.iadd, 1) from by decide +kernel)).mpr ?_
  refine (w_rald (k0 := 36) (n := i + 2) (show ins 266 731 = some (.iaload, 1) from by decide +kernel) rfl rfl (qI_add i 2).symm (by omega) hl').mpr ?_
  rw [hk 0 0 (i + 2)]
  refine (w_callV (k0 := 40) (i0 := 0) (j0 := 0) (As := [vI (S 36 0 0 (i + 1)), vI (S 36 0 0 (i + 2))]) (st' := [vI r]) hd (show ins 266 732 = some (.invokevirtual 89, 3) from by decide +kernel) (show bck1 266 89 218 3 false = true from by decide +kernel) rfl rfl (Nat.le_of_ble_eq_true rfl) (by decide +kernel) (by decide) h2).mpr ?_
  refine (w_icmpeq (t := 1088) (show ins 266 735 = some (.if_icmp .eq 353, 3) from by decide +kernel) (by decide)).mpr ?_
  rw [if_pos rfl]
  exact hq
theorem L_740 {d : Nat} {S S1 S2 : bSt} {Q : Option bV → bSt → Prop} {i : Nat} {r : Int32} (hd : 0 < d) (hn : i + 7 ≤ bROl S 36) (hl : bROl S 36 < 2 ^ 31) (hk : ∀ i' j m, S1 36 i' j m = S 36 i' j m) (h1 : Ret (d - 1) 114 [vR 0 0 0, vI (S 36 0 0 (i + 1)), vI (S 36 0 0 (i + 2))] S (some (vI r)) S1) (h2 : Ret (d - 1) 202 [vR 40 0 0, vI (S 36 0 0 (i + 1)), vI (S 36 0 0 (i + 2))] S1 (some (vI r)) S2) (hq : Wp d 266 1088 (Lf i) [] S2 Q) : Wp d 266 740 (Lf i) [] S Q := by
  have e36 : bROl S1 36 = bROl S 36 := by unfold bROl; rw [hk]
  have hn' : i + 7 ≤ bROl S1 36 := by rw [e36]; exact hn
  have hl' : bROl S1 36 < 2 ^ 31 := by rw [e36]; exact hl
  show Wp d 266 740 [some (vR 36 0 0), some (vR 0 0 0), some (vR 40 0 0), some (vI (nI i))] [] S Q
  refine (w_aload_n (show ins 266 740 = some (.aload_n 1, 1) from by decide +kernel) rfl (by decide)).mpr ?_
  refine (w_aload_n (show ins 266 741 = some (.aload_n 0, 1) from by decide +kernel) rfl (by decide)).mpr ?_
  refine (w_iload_n (show ins 266 742 = some (.iload_n 3, 1) from by decide +kernel) rfl).mpr ?_
  refine (w_iconst (x := 1) (show ins 266 743 = some (.iconst 1, 1) from by decide +kernel) (by decide)).mpr ?_
  refine (w_iadd (show ins 266 744 = some (.iadd, 1) from by decide +kernel)).mpr ?_
  refine (w_rald (k0 := 36) (n := i + 1) (show ins 266 745 = some (.iaload, 1) from by decide +kernel) rfl rfl (qI_add i 1).symm (by omega) hl).mpr ?_
  refine (w_aload_n (show ins 266 746 = some (.aload_n 0, 1) from by decide +kernel) rfl (by decide)).mpr ?_
  refine (w_iload_n (show ins 266 747 = some (.iload_n 3, 1) from by decide +kernel) rfl).mpr ?_
  refine (w_iconst (x := 2) (show ins 266 748 = some (.iconst 2, 1) from by decide +kernel) (by decide)).mpr ?_
  refine (w_iadd (show ins 266 749 = some (.iadd, 1) from by decide +kernel)).mpr ?_
  refine (w_rald (k0 := 36) (n := i + 2) (show ins 266 750 = some (.iaload, 1) from by decide +kernel) rfl rfl (qI_add i 2).symm (by omega) hl).mpr ?_
  refine (w_callV (k0 := 0) (i0 := 0) (j0 := 0) (As := [vI (S 36 0 0 (i + 1)), vI (S 36 0 0 (i + 2))]) (st' := []) hd (show ins 266 751 = some (.invokevirtual 90, 3) from by decide +kernel) (show bck1 266 90 114 3 false = true from by decide +kernel) rfl rfl (Nat.le_of_ble_eq_true rfl) (by decide +kernel) (by decide) h1).mpr ?_
  refine (w_aload_n (show ins 266 754 = some (.aload_n 2, 1) from by decide +kernel) rfl (by decide)).mpr ?_
  refine (w_aload_n (show ins 266 755 = some (.aload_n 0, 1) from by decide +kernel) rfl (by decide)).mpr ?_
  refine (w_iload_n (show ins 266 756 = some (.iload_n 3, 1) from by decide +kernel) rfl).mpr ?_
  refine (w_iconst (x := 1) (show ins 266 757 = some (.iconst 1, 1) from by decide +kernel) (by decide)).mpr ?_
  refine (w_iadd (show ins 266 758 = some (.iadd, 1) from by decide +kernel)).mpr ?_
  refine (w_rald (k0 := 36) (n := i + 1) (show ins 266 759 = some (.iaload, 1) from by decide +kernel) rfl rfl (qI_add i 1).symm (by omega) hl').mpr ?_
  rw [hk 0 0 (i + 1)]
  refine (w_aload_n (show ins 266 760 = some (.aload_n 0, 1) from by decide +kernel) rfl (by decide)).mpr ?_
  refine (w_iload_n (show ins 266 761 = some (.iload_n 3, 1) from by decide +kernel) rfl).mpr ?_
  refine (w_iconst (x := 2) (show ins 266 762 = some (.iconst 2, 1) from by decide +kernel) (by decide)).mpr ?_
  refine (w_iadd (show ins 266 763 = some (.iadd, 1) from by decide +kernel)).mpr ?_
  refine (w_rald (k0 := 36) (n := i + 2) (show ins 266 764 = some (.iaload, 1) from by decide +kernel) rfl rfl (qI_add i 2).symm (by omega) hl').mpr ?_
  rw [hk 0 0 (i + 2)]
  refine (w_callV (k0 := 40) (i0 := 0) (j0 := 0) (As := [vI (S 36 0 0 (i + 1)), vI (S 36 0 0 (i + 2))]) (st' := [vI r]) hd (show ins 266 765 = some (.invokevirtual 93, 3) from by decide +kernel) (show bck1 266 93 202 3 false = true from by decide +kernel) rfl rfl (Nat.le_of_ble_eq_true rfl) (by decide +kernel) (by decide) h2).mpr ?_
  refine (w_icmpeq (t := 1088) (show ins 266 768 = some (.if_icmp .eq 320, 3) from by decide +kernel) (by decide)).mpr ?_
  rw [if_pos rfl]
  exact hq
theorem L_773 {d : Nat} {S S1 S2 : bSt} {Q : Option bV → bSt → Prop} {i : Nat} {r : Int32} (hd : 0 < d) (hn : i + 7 ≤ bROl S 36) (hl : bROl S 36 < 2 ^ 31) (hk : ∀ i' j m, S1 36 i' j m = S 36 i' j m) (h1 : Ret (d - 1) 115 [vR 0 0 0, vI (S 36 0 0 (i + 1)), vI (S 36 0 0 (i + 2))] S (some (vI r)) S1) (h2 : Ret (d - 1) 203 [vR 40 0 0, vI (S 36 0 0 (i + 1)), vI (S 36 0 0 (i + 2))] S1 (some (vI r)) S2) (hq : Wp d 266 1088 (Lf i) [] S2 Q) : Wp d 266 773 (Lf i) [] S Q := by
  have e36 : bROl S1 36 = bROl S 36 := by unfold bROl; rw [hk]
  have hn' : i + 7 ≤ bROl S1 36 := by rw [e36]; exact hn
  have hl' : bROl S1 36 < 2 ^ 31 := by rw [e36]; exact hl
  show Wp d 266 773 [some (vR 36 0 0), some (vR 0 0 0), some (vR 40 0 0), some (vI (nI i))] [] S Q
  refine (w_aload_n (show ins 266 773 = some (.aload_n 1, 1) from by decide +kernel) rfl (by decide)).mpr ?_
  refine (w_aload_n (show ins 266 774 = some (.aload_n 0, 1) from by decide +kernel) rfl (by decide)).mpr ?_
  refine (w_iload_n (show ins 266 775 = some (.iload_n 3, 1) from by decide +kernel) rfl).mpr ?_
  refine (w_iconst (x := 1) (show ins 266 776 = some (.iconst 1, 1) from by decide +kernel) (by decide)).mpr ?_
  refine (w_iadd (show ins 266 777 = some (.iadd, 1) from by decide +kernel)).mpr ?_
  refine (w_rald (k0 := 36) (n := i + 1) (show ins 266 778 = some (.iaload, 1) from by decide +kernel) rfl rfl (qI_add i 1).symm (by omega) hl).mpr ?_
  refine (w_aload_n (show ins 266 779 = some (.aload_n 0, 1) from by decide +kernel) rfl (by decide)).mpr ?_
  refine (w_iload_n (show ins 266 780 = some (.iload_n 3, 1) from by decide +kernel) rfl).mpr ?_
  refine (w_iconst (x := 2) (show ins 266 781 = some (.iconst 2, 1) from by decide +kernel) (by decide)).mpr ?_
  refine (w_iadd (show ins 266 782 = some (.iadd, 1) from by decide +kernel)).mpr ?_
  refine (w_rald (k0 := 36) (n := i + 2) (show ins 266 783 = some (.iaload, 1) from by decide +kernel) rfl rfl (qI_add i 2).symm (by omega) hl).mpr ?_
  refine (w_callV (k0 := 0) (i0 := 0) (j0 := 0) (As := [vI (S 36 0 0 (i + 1)), vI (S 36 0 0 (i + 2))]) (st' := []) hd (show ins 266 784 = some (.invokevirtual 94, 3) from by decide +kernel) (show bck1 266 94 115 3 false = true from by decide +kernel) rfl rfl (Nat.le_of_ble_eq_true rfl) (by decide +kernel) (by decide) h1).mpr ?_
  refine (w_aload_n (show ins 266 787 = some (.aload_n 2, 1) from by decide +kernel) rfl (by decide)).mpr ?_
  refine (w_aload_n (show ins 266 788 = some (.aload_n 0, 1) from by decide +kernel) rfl (by decide)).mpr ?_
  refine (w_iload_n (show ins 266 789 = some (.iload_n 3, 1) from by decide +kernel) rfl).mpr ?_
  refine (w_iconst (x := 1) (show ins 266 790 = some (.iconst 1, 1) from by decide +kernel) (by decide)).mpr ?_
  refine (w_iadd (show ins 266 791 = some (.iadd, 1) from by decide +kernel)).mpr ?_
  refine (w_rald (k0 := 36) (n := i + 1) (show ins 266 792 = some (.iaload, 1) from by decide +kernel) rfl rfl (qI_add i 1).symm (by omega) hl').mpr ?_
  rw [hk 0 0 (i + 1)]
  refine (w_aload_n (show ins 266 793 = some (.aload_n 0, 1) from by decide +kernel) rfl (by decide)).mpr ?_
  refine (w_iload_n (show ins 266 794 = some (.iload_n 3, 1) from by decide +kernel) rfl).mpr ?_
  refine (w_iconst (x := 2) (show ins 266 795 = some (.iconst 2, 1) from by decide +kernel) (by decide)).mpr ?_
  refine (w_iadd (show ins 266 796 = some (.iadd, 1) from by decide +kernel)).mpr ?_
  refine (w_rald (k0 := 36) (n := i + 2) (show ins 266 797 = some (.iaload, 1) from by decide +kernel) rfl rfl (qI_add i 2).symm (by omega) hl').mpr ?_
  rw [hk 0 0 (i + 2)]
  refine (w_callV (k0 := 40) (i0 := 0) (j0 := 0) (As := [vI (S 36 0 0 (i + 1)), vI (S 36 0 0 (i + 2))]) (st' := [vI r]) hd (show ins 266 798 = some (.invokevirtual 97, 3) from by decide +kernel) (show bck1 266 97 203 3 false = true from by decide +kernel) rfl rfl (Nat.le_of_ble_eq_true rfl) (by decide +kernel) (by decide) h2).mpr ?_
  refine (w_icmpeq (t := 1088) (show ins 266 801 = some (.if_icmp .eq 287, 3) from by decide +kernel) (by decide)).mpr ?_
  rw [if_pos rfl]
  exact hq
theorem L_806 {d : Nat} {S S1 S2 : bSt} {Q : Option bV → bSt → Prop} {i : Nat} {r : Int32} (hd : 0 < d) (hn : i + 7 ≤ bROl S 36) (hl : bROl S 36 < 2 ^ 31) (hk : ∀ i' j m, S1 36 i' j m = S 36 i' j m) (h1 : Ret (d - 1) 116 [vR 0 0 0, vI (S 36 0 0 (i + 1))] S (some (vI r)) S1) (h2 : Ret (d - 1) 205 [vR 40 0 0, vI (S 36 0 0 (i + 1))] S1 (some (vI r)) S2) (hq : Wp d 266 1088 (Lf i) [] S2 Q) : Wp d 266 806 (Lf i) [] S Q := by
  have e36 : bROl S1 36 = bROl S 36 := by unfold bROl; rw [hk]
  have hn' : i + 7 ≤ bROl S1 36 := by rw [e36]; exact hn
  have hl' : bROl S1 36 < 2 ^ 31 := by rw [e36]; exact hl
  show Wp d 266 806 [some (vR 36 0 0), some (vR 0 0 0), some (vR 40 0 0), some (vI (nI i))] [] S Q
  refine (w_aload_n (show ins 266 806 = some (.aload_n 1, 1) from by decide +kernel) rfl (by decide)).mpr ?_
  refine (w_aload_n (show ins 266 807 = some (.aload_n 0, 1) from by decide +kernel) rfl (by decide)).mpr ?_
  refine (w_iload_n (show ins 266 808 = some (.iload_n 3, 1) from by decide +kernel) rfl).mpr ?_
  refine (w_iconst (x := 1) (show ins 266 809 = some (.iconst 1, 1) from by decide +kernel) (by decide)).mpr ?_
  refine (w_iadd (show ins 266 810 = some (.iadd, 1) from by decide +kernel)).mpr ?_
  refine (w_rald (k0 := 36) (n := i + 1) (show ins 266 811 = some (.iaload, 1) from by decide +kernel) rfl rfl (qI_add i 1).symm (by omega) hl).mpr ?_
  refine (w_callV (k0 := 0) (i0 := 0) (j0 := 0) (As := [vI (S 36 0 0 (i + 1))]) (st' := []) hd (show ins 266 812 = some (.invokevirtual 98, 3) from by decide +kernel) (show bck1 266 98 116 2 false = true from by decide +kernel) rfl rfl (Nat.le_of_ble_eq_true rfl) (by decide +kernel) (by decide) h1).mpr ?_
  refine (w_aload_n (show ins 266 815 = some (.aload_n 2, 1) from by decide +kernel) rfl (by decide)).mpr ?_
  refine (w_aload_n (show ins 266 816 = some (.aload_n 0, 1) from by decide +kernel) rfl (by decide)).mpr ?_
  refine (w_iload_n (show ins 266 817 = some (.iload_n 3, 1) from by decide +kernel) rfl).mpr ?_
  refine (w_iconst (x := 1) (show ins 266 818 = some (.iconst 1, 1) from by decide +kernel) (by decide)).mpr ?_
  refine (w_iadd (show ins 266 819 = some (.iadd, 1) from by decide +kernel)).mpr ?_
  refine (w_rald (k0 := 36) (n := i + 1) (show ins 266 820 = some (.iaload, 1) from by decide +kernel) rfl rfl (qI_add i 1).symm (by omega) hl').mpr ?_
  rw [hk 0 0 (i + 1)]
  refine (w_callV (k0 := 40) (i0 := 0) (j0 := 0) (As := [vI (S 36 0 0 (i + 1))]) (st' := [vI r]) hd (show ins 266 821 = some (.invokevirtual 101, 3) from by decide +kernel) (show bck1 266 101 205 2 false = true from by decide +kernel) rfl rfl (Nat.le_of_ble_eq_true rfl) (by decide +kernel) (by decide) h2).mpr ?_
  refine (w_icmpeq (t := 1088) (show ins 266 824 = some (.if_icmp .eq 264, 3) from by decide +kernel) (by decide)).mpr ?_
  rw [if_pos rfl]
  exact hq
theorem L_829 {d : Nat} {S S1 S2 : bSt} {Q : Option bV → bSt → Prop} {i : Nat} {r : Int32} (hd : 0 < d) (hn : i + 7 ≤ bROl S 36) (hl : bROl S 36 < 2 ^ 31) (hk : ∀ i' j m, S1 36 i' j m = S 36 i' j m) (h1 : Ret (d - 1) 117 [vR 0 0 0, vI (S 36 0 0 (i + 1))] S (some (vI r)) S1) (h2 : Ret (d - 1) 206 [vR 40 0 0, vI (S 36 0 0 (i + 1))] S1 (some (vI r)) S2) (hq : Wp d 266 1088 (Lf i) [] S2 Q) : Wp d 266 829 (Lf i) [] S Q := by
  have e36 : bROl S1 36 = bROl S 36 := by unfold bROl; rw [hk]
  have hn' : i + 7 ≤ bROl S1 36 := by rw [e36]; exact hn
  have hl' : bROl S1 36 < 2 ^ 31 := by rw [e36]; exact hl
  show Wp d 266 829 [some (vR 36 0 0), some (vR 0 0 0), some (vR 40 0 0), some (vI (nI i))] [] S Q
  refine (w_aload_n (show ins 266 829 = some (.aload_n 1, 1) from by decide +kernel) rfl (by decide)).mpr ?_
  refine (w_aload_n (show ins 266 830 = some (.aload_n 0, 1) from by decide +kernel) rfl (by decide)).mpr ?_
  refine (w_iload_n (show ins 266 831 = some (.iload_n 3, 1) from by decide +kernel) rfl).mpr ?_
  refine (w_iconst (x := 1) (show ins 266 832 = some (.iconst 1, 1) from by decide +kernel) (by decide)).mpr ?_
  refine (w_iadd (show ins 266 833 = some (.iadd, 1) from by decide +kernel)).mpr ?_
  refine (w_rald (k0 := 36) (n := i + 1) (show ins 266 834 = some (.iaload, 1) from by decide +kernel) rfl rfl (qI_add i 1).symm (by omega) hl).mpr ?_
  refine (w_callV (k0 := 0) (i0 := 0) (j0 := 0) (As := [vI (S 36 0 0 (i + 1))]) (st' := []) hd (show ins 266 835 = some (.invokevirtual 102, 3) from by decide +kernel) (show bck1 266 102 117 2 false = true from by decide +kernel) rfl rfl (Nat.le_of_ble_eq_true rfl) (by decide +kernel) (by decide) h1).mpr ?_
  refine (w_aload_n (show ins 266 838 = some (.aload_n 2, 1) from by decide +kernel) rfl (by decide)).mpr ?_
  refine (w_aload_n (show ins 266 839 = some (.aload_n 0, 1) from by decide +kernel) rfl (by decide)).mpr ?_
  refine (w_iload_n (show ins 266 840 = some (.iload_n 3, 1) from by decide +kernel) rfl).mpr ?_
  refine (w_iconst (x := 1) (show ins 266 841 = some (.iconst 1, 1) from by decide +kernel) (by decide)).mpr ?_
  refine (w_iadd (show ins 266 842 = some (.iadd, 1) from by decide +kernel)).mpr ?_
  refine (w_rald (k0 := 36) (n := i + 1) (show ins 266 843 = some (.iaload, 1) from by decide +kernel) rfl rfl (qI_add i 1).symm (by omega) hl').mpr ?_
  rw [hk 0 0 (i + 1)]
  refine (w_callV (k0 := 40) (i0 := 0) (j0 := 0) (As := [vI (S 36 0 0 (i + 1))]) (st' := [vI r]) hd (show ins 266 844 = some (.invokevirtual 105, 3) from by decide +kernel) (show bck1 266 105 206 2 false = true from by decide +kernel) rfl rfl (Nat.le_of_ble_eq_true rfl) (by decide +kernel) (by decide) h2).mpr ?_
  refine (w_icmpeq (t := 1088) (show ins 266 847 = some (.if_icmp .eq 241, 3) from by decide +kernel) (by decide)).mpr ?_
  rw [if_pos rfl]
  exact hq
theorem L_852 {d : Nat} {S S1 S2 : bSt} {Q : Option bV → bSt → Prop} {i : Nat} {r : Int32} (hd : 0 < d) (hn : i + 7 ≤ bROl S 36) (hl : bROl S 36 < 2 ^ 31) (hk : ∀ i' j m, S1 36 i' j m = S 36 i' j m) (h1 : Ret (d - 1) 118 [vR 0 0 0, vI (S 36 0 0 (i + 1))] S (some (vI r)) S1) (h2 : Ret (d - 1) 224 [vR 40 0 0, vI (S 36 0 0 (i + 1))] S1 (some (vI r)) S2) (hq : Wp d 266 1088 (Lf i) [] S2 Q) : Wp d 266 852 (Lf i) [] S Q := by
  have e36 : bROl S1 36 = bROl S 36 := by unfold bROl; rw [hk]
  have hn' : i + 7 ≤ bROl S1 36 := by rw [e36]; exact hn
  have hl' : bROl S1 36 < 2 ^ 31 := by rw [e36]; exact hl
  show Wp d 266 852 [some (vR 36 0 0), some (vR 0 0 0), some (vR 40 0 0), some (vI (nI i))] [] S Q
  refine (w_aload_n (show ins 266 852 = some (.aload_n 1, 1) from by decide +kernel) rfl (by decide)).mpr ?_
  refine (w_aload_n (show ins 266 853 = some (.aload_n 0, 1) from by decide +kernel) rfl (by decide)).mpr ?_
  refine (w_iload_n (show ins 266 854 = some (.iload_n 3, 1) from by decide +kernel) rfl).mpr ?_
  refine (w_iconst (x := 1) (show ins 266 855 = some (.iconst 1, 1) from by decide +kernel) (by decide)).mpr ?_
  refine (w_iadd (show ins 266 856 = some (.iadd, 1) from by decide +kernel)).mpr ?_
  refine (w_rald (k0 := 36) (n := i + 1) (show ins 266 857 = some (.iaload, 1) from by decide +kernel) rfl rfl (qI_add i 1).symm (by omega) hl).mpr ?_
  refine (w_callV (k0 := 0) (i0 := 0) (j0 := 0) (As := [vI (S 36 0 0 (i + 1))]) (st' := []) hd (show ins 266 858 = some (.invokevirtual 106, 3) from by decide +kernel) (show bck1 266 106 118 2 false = true from by decide +kernel) rfl rfl (Nat.le_of_ble_eq_true rfl) (by decide +kernel) (by decide) h1).mpr ?_
  refine (w_aload_n (show ins 266 861 = some (.aload_n 2, 1) from by decide +kernel) rfl (by decide)).mpr ?_
  refine (w_aload_n (show ins 266 862 = some (.aload_n 0, 1) from by decide +kernel) rfl (by decide)).mpr ?_
  refine (w_iload_n (show ins 266 863 = some (.iload_n 3, 1) from by decide +kernel) rfl).mpr ?_
  refine (w_iconst (x := 1) (show ins 266 864 = some (.iconst 1, 1) from by decide +kernel) (by decide)).mpr ?_
  refine (w_iadd (show ins 266 865 = some (.iadd, 1) from by decide +kernel)).mpr ?_
  refine (w_rald (k0 := 36) (n := i + 1) (show ins 266 866 = some (.iaload, 1) from by decide +kernel) rfl rfl (qI_add i 1).symm (by omega) hl').mpr ?_
  rw [hk 0 0 (i + 1)]
  refine (w_callV (k0 := 40) (i0 := 0) (j0 := 0) (As := [vI (S 36 0 0 (i + 1))]) (st' := [vI r]) hd (show ins 266 867 = some (.invokevirtual 109, 3) from by decide +kernel) (show bck1 266 109 224 2 false = true from by decide +kernel) rfl rfl (Nat.le_of_ble_eq_true rfl) (by decide +kernel) (by decide) h2).mpr ?_
  refine (w_icmpeq (t := 1088) (show ins 266 870 = some (.if_icmp .eq 218, 3) from by decide +kernel) (by decide)).mpr ?_
  rw [if_pos rfl]
  exact hq
theorem L_875 {d : Nat} {S S1 S2 : bSt} {Q : Option bV → bSt → Prop} {i : Nat} {r : Int32} (hd : 0 < d) (hn : i + 7 ≤ bROl S 36) (hl : bROl S 36 < 2 ^ 31) (hk : ∀ i' j m, S1 36 i' j m = S 36 i' j m) (h1 : Ret (d - 1) 119 [vR 0 0 0] S (some (vI r)) S1) (h2 : Ret (d - 1) 225 [vR 40 0 0] S1 (some (vI r)) S2) (hq : Wp d 266 1088 (Lf i) [] S2 Q) : Wp d 266 875 (Lf i) [] S Q := by
  have e36 : bROl S1 36 = bROl S 36 := by unfold bROl; rw [hk]
  have hn' : i + 7 ≤ bROl S1 36 := by rw [e36]; exact hn
  have hl' : bROl S1 36 < 2 ^ 31 := by rw [e36]; exact hl
  show Wp d 266 875 [some (vR 36 0 0), some (vR 0 0 0), some (vR 40 0 0), some (vI (nI i))] [] S Q
  refine (w_aload_n (show ins 266 875 = some (.aload_n 1, 1) from by decide +kernel) rfl (by decide)).mpr ?_
  refine (w_callV (k0 := 0) (i0 := 0) (j0 := 0) (As := []) (st' := []) hd (show ins 266 876 = some (.invokevirtual 110, 3) from by decide +kernel) (show bck1 266 110 119 1 false = true from by decide +kernel) rfl rfl (Nat.le_of_ble_eq_true rfl) (by decide +kernel) (by decide) h1).mpr ?_
  refine (w_aload_n (show ins 266 879 = some (.aload_n 2, 1) from by decide +kernel) rfl (by decide)).mpr ?_
  refine (w_callV (k0 := 40) (i0 := 0) (j0 := 0) (As := []) (st' := [vI r]) hd (show ins 266 880 = some (.invokevirtual 113, 3) from by decide +kernel) (show bck1 266 113 225 1 false = true from by decide +kernel) rfl rfl (Nat.le_of_ble_eq_true rfl) (by decide +kernel) (by decide) h2).mpr ?_
  refine (w_icmpeq (t := 1088) (show ins 266 883 = some (.if_icmp .eq 205, 3) from by decide +kernel) (by decide)).mpr ?_
  rw [if_pos rfl]
  exact hq
theorem L_888 {d : Nat} {S S1 S2 : bSt} {Q : Option bV → bSt → Prop} {i : Nat} {r : Int32} (hd : 0 < d) (hn : i + 7 ≤ bROl S 36) (hl : bROl S 36 < 2 ^ 31) (hk : ∀ i' j m, S1 36 i' j m = S 36 i' j m) (h1 : Ret (d - 1) 120 [vR 0 0 0, vI (S 36 0 0 (i + 1))] S (some (vI r)) S1) (h2 : Ret (d - 1) 226 [vR 40 0 0, vI (S 36 0 0 (i + 1))] S1 (some (vI r)) S2) (hq : Wp d 266 1088 (Lf i) [] S2 Q) : Wp d 266 888 (Lf i) [] S Q := by
  have e36 : bROl S1 36 = bROl S 36 := by unfold bROl; rw [hk]
  have hn' : i + 7 ≤ bROl S1 36 := by rw [e36]; exact hn
  have hl' : bROl S1 36 < 2 ^ 31 := by rw [e36]; exact hl
  show Wp d 266 888 [some (vR 36 0 0), some (vR 0 0 0), some (vR 40 0 0), some (vI (nI i))] [] S Q
  refine (w_aload_n (show ins 266 888 = some (.aload_n 1, 1) from by decide +kernel) rfl (by decide)).mpr ?_
  refine (w_aload_n (show ins 266 889 = some (.aload_n 0, 1) from by decide +kernel) rfl (by decide)).mpr ?_
  refine (w_iload_n (show ins 266 890 = some (.iload_n 3, 1) from by decide +kernel) rfl).mpr ?_
  refine (w_iconst (x := 1) (show ins 266 891 = some (.iconst 1, 1) from by decide +kernel) (by decide)).mpr ?_
  refine (w_iadd (show ins 266 892 = some (.iadd, 1) from by decide +kernel)).mpr ?_
  refine (w_rald (k0 := 36) (n := i + 1) (show ins 266 893 = some (.iaload, 1) from by decide +kernel) rfl rfl (qI_add i 1).symm (by omega) hl).mpr ?_
  refine (w_callV (k0 := 0) (i0 := 0) (j0 := 0) (As := [vI (S 36 0 0 (i + 1))]) (st' := []) hd (show ins 266 894 = some (.invokevirtual 114, 3) from by decide +kernel) (show bck1 266 114 120 2 false = true from by decide +kernel) rfl rfl (Nat.le_of_ble_eq_true rfl) (by decide +kernel) (by decide) h1).mpr ?_
  refine (w_aload_n (show ins 266 897 = some (.aload_n 2, 1) from by decide +kernel) rfl (by decide)).mpr ?_
  refine (w_aload_n (show ins 266 898 = some (.aload_n 0, 1) from by decide +kernel) rfl (by decide)).mpr ?_
  refine (w_iload_n (show ins 266 899 = some (.iload_n 3, 1) from by decide +kernel) rfl).mpr ?_
  refine (w_iconst (x := 1) (show ins 266 900 = some (.iconst 1, 1) from by decide +kernel) (by decide)).mpr ?_
  refine (w_iadd (show ins 266 901 = some (.iadd, 1) from by decide +kernel)).mpr ?_
  refine (w_rald (k0 := 36) (n := i + 1) (show ins 266 902 = some (.iaload, 1) from by decide +kernel) rfl rfl (qI_add i 1).symm (by omega) hl').mpr ?_
  rw [hk 0 0 (i + 1)]
  refine (w_callV (k0 := 40) (i0 := 0) (j0 := 0) (As := [vI (S 36 0 0 (i + 1))]) (st' := [vI r]) hd (show ins 266 903 = some (.invokevirtual 117, 3) from by decide +kernel) (show bck1 266 117 226 2 false = true from by decide +kernel) rfl rfl (Nat.le_of_ble_eq_true rfl) (by decide +kernel) (by decide) h2).mpr ?_
  refine (w_icmpeq (t := 1088) (show ins 266 906 = some (.if_icmp .eq 182, 3) from by decide +kernel) (by decide)).mpr ?_
  rw [if_pos rfl]
  exact hq
theorem L_911 {d : Nat} {S S1 S2 : bSt} {Q : Option bV → bSt → Prop} {i : Nat} {r : Int32} (hd : 0 < d) (hn : i + 7 ≤ bROl S 36) (hl : bROl S 36 < 2 ^ 31) (hk : ∀ i' j m, S1 36 i' j m = S 36 i' j m) (h1 : Ret (d - 1) 121 [vR 0 0 0, vI (S 36 0 0 (i + 1))] S (some (vI r)) S1) (h2 : Ret (d - 1) 230 [vR 40 0 0, vI (S 36 0 0 (i + 1))] S1 (some (vI r)) S2) (hq : Wp d 266 1088 (Lf i) [] S2 Q) : Wp d 266 911 (Lf i) [] S Q := by
  have e36 : bROl S1 36 = bROl S 36 := by unfold bROl; rw [hk]
  have hn' : i + 7 ≤ bROl S1 36 := by rw [e36]; exact hn
  have hl' : bROl S1 36 < 2 ^ 31 := by rw [e36]; exact hl
  show Wp d 266 911 [some (vR 36 0 0), some (vR 0 0 0), some (vR 40 0 0), some (vI (nI i))] [] S Q
  refine (w_aload_n (show ins 266 911 = some (.aload_n 1, 1) from by decide +kernel) rfl (by decide)).mpr ?_
  refine (w_aload_n (show ins 266 912 = some (.aload_n 0, 1) from by decide +kernel) rfl (by decide)).mpr ?_
  refine (w_iload_n (show ins 266 913 = some (.iload_n 3, 1) from by decide +kernel) rfl).mpr ?_
  refine (w_iconst (x := 1) (show ins 266 914 = some (.iconst 1, 1) from by decide +kernel) (by decide)).mpr ?_
  refine (w_iadd (show ins 266 915 = some (.iadd, 1) from by decide +kernel)).mpr ?_
  refine (w_rald (k0 := 36) (n := i + 1) (show ins 266 916 = some (.iaload, 1) from by decide +kernel) rfl rfl (qI_add i 1).symm (by omega) hl).mpr ?_
  refine (w_callV (k0 := 0) (i0 := 0) (j0 := 0) (As := [vI (S 36 0 0 (i + 1))]) (st' := []) hd (show ins 266 917 = some (.invokevirtual 118, 3) from by decide +kernel) (show bck1 266 118 121 2 false = true from by decide +kernel) rfl rfl (Nat.le_of_ble_eq_true rfl) (by decide +kernel) (by decide) h1).mpr ?_
  refine (w_aload_n (show ins 266 920 = some (.aload_n 2, 1) from by decide +kernel) rfl (by decide)).mpr ?_
  refine (w_aload_n (show ins 266 921 = some (.aload_n 0, 1) from by decide +kernel) rfl (by decide)).mpr ?_
  refine (w_iload_n (show ins 266 922 = some (.iload_n 3, 1) from by decide +kernel) rfl).mpr ?_
  refine (w_iconst (x := 1) (show ins 266 923 = some (.iconst 1, 1) from by decide +kernel) (by decide)).mpr ?_
  refine (w_iadd (show ins 266 924 = some (.iadd, 1) from by decide +kernel)).mpr ?_
  refine (w_rald (k0 := 36) (n := i + 1) (show ins 266 925 = some (.iaload, 1) from by decide +kernel) rfl rfl (qI_add i 1).symm (by omega) hl').mpr ?_
  rw [hk 0 0 (i + 1)]
  refine (w_callV (k0 := 40) (i0 := 0) (j0 := 0) (As := [vI (S 36 0 0 (i + 1))]) (st' := [vI r]) hd (show ins 266 926 = some (.invokevirtual 121, 3) from by decide +kernel) (show bck1 266 121 230 2 false = true from by decide +kernel) rfl rfl (Nat.le_of_ble_eq_true rfl) (by decide +kernel) (by decide) h2).mpr ?_
  refine (w_icmpeq (t := 1088) (show ins 266 929 = some (.if_icmp .eq 159, 3) from by decide +kernel) (by decide)).mpr ?_
  rw [if_pos rfl]
  exact hq
theorem L_934 {d : Nat} {S S1 S2 : bSt} {Q : Option bV → bSt → Prop} {i : Nat} {r : Int32} (hd : 0 < d) (hn : i + 7 ≤ bROl S 36) (hl : bROl S 36 < 2 ^ 31) (hk : ∀ i' j m, S1 36 i' j m = S 36 i' j m) (h1 : Ret (d - 1) 122 [vR 0 0 0, vI (S 36 0 0 (i + 1))] S (some (vI r)) S1) (h2 : Ret (d - 1) 233 [vR 40 0 0, vI (S 36 0 0 (i + 1))] S1 (some (vI r)) S2) (hq : Wp d 266 1088 (Lf i) [] S2 Q) : Wp d 266 934 (Lf i) [] S Q := by
  have e36 : bROl S1 36 = bROl S 36 := by unfold bROl; rw [hk]
  have hn' : i + 7 ≤ bROl S1 36 := by rw [e36]; exact hn
  have hl' : bROl S1 36 < 2 ^ 31 := by rw [e36]; exact hl
  show Wp d 266 934 [some (vR 36 0 0), some (vR 0 0 0), some (vR 40 0 0), some (vI (nI i))] [] S Q
  refine (w_aload_n (show ins 266 934 = some (.aload_n 1, 1) from by decide +kernel) rfl (by decide)).mpr ?_
  refine (w_aload_n (show ins 266 935 = some (.aload_n 0, 1) from by decide +kernel) rfl (by decide)).mpr ?_
  refine (w_iload_n (show ins 266 936 = some (.iload_n 3, 1) from by decide +kernel) rfl).mpr ?_
  refine (w_iconst (x := 1) (show ins 266 937 = some (.iconst 1, 1) from by decide +kernel) (by decide)).mpr ?_
  refine (w_iadd (show ins 266 938 = some (.iadd, 1) from by decide +kernel)).mpr ?_
  refine (w_rald (k0 := 36) (n := i + 1) (show ins 266 939 = some (.iaload, 1) from by decide +kernel) rfl rfl (qI_add i 1).symm (by omega) hl).mpr ?_
  refine (w_callV (k0 := 0) (i0 := 0) (j0 := 0) (As := [vI (S 36 0 0 (i + 1))]) (st' := []) hd (show ins 266 940 = some (.invokevirtual 122, 3) from by decide +kernel) (show bck1 266 122 122 2 false = true from by decide +kernel) rfl rfl (Nat.le_of_ble_eq_true rfl) (by decide +kernel) (by decide) h1).mpr ?_
  refine (w_aload_n (show ins 266 943 = some (.aload_n 2, 1) from by decide +kernel) rfl (by decide)).mpr ?_
  refine (w_aload_n (show ins 266 944 = some (.aload_n 0, 1) from by decide +kernel) rfl (by decide)).mpr ?_
  refine (w_iload_n (show ins 266 945 = some (.iload_n 3, 1) from by decide +kernel) rfl).mpr ?_
  refine (w_iconst (x := 1) (show ins 266 946 = some (.iconst 1, 1) from by decide +kernel) (by decide)).mpr ?_
  refine (w_iadd (show ins 266 947 = some (.iadd, 1) from by decide +kernel)).mpr ?_
  refine (w_rald (k0 := 36) (n := i + 1) (show ins 266 948 = some (.iaload, 1) from by decide +kernel) rfl rfl (qI_add i 1).symm (by omega) hl').mpr ?_
  rw [hk 0 0 (i + 1)]
  refine (w_callV (k0 := 40) (i0 := 0) (j0 := 0) (As := [vI (S 36 0 0 (i + 1))]) (st' := [vI r]) hd (show ins 266 949 = some (.invokevirtual 125, 3) from by decide +kernel) (show bck1 266 125 233 2 false = true from by decide +kernel) rfl rfl (Nat.le_of_ble_eq_true rfl) (by decide +kernel) (by decide) h2).mpr ?_
  refine (w_icmpeq (t := 1088) (show ins 266 952 = some (.if_icmp .eq 136, 3) from by decide +kernel) (by decide)).mpr ?_
  rw [if_pos rfl]
  exact hq
theorem L_957 {d : Nat} {S S1 S2 : bSt} {Q : Option bV → bSt → Prop} {i : Nat} {r : Int32} (hd : 0 < d) (hn : i + 7 ≤ bROl S 36) (hl : bROl S 36 < 2 ^ 31) (hk : ∀ i' j m, S1 36 i' j m = S 36 i' j m) (h1 : Ret (d - 1) 123 [vR 0 0 0, vI (S 36 0 0 (i + 1)), vI (S 36 0 0 (i + 2))] S (some (vI r)) S1) (h2 : Ret (d - 1) 238 [vR 40 0 0, vI (S 36 0 0 (i + 1)), vI (S 36 0 0 (i + 2))] S1 (some (vI r)) S2) (hq : Wp d 266 1088 (Lf i) [] S2 Q) : Wp d 266 957 (Lf i) [] S Q := by
  have e36 : bROl S1 36 = bROl S 36 := by unfold bROl; rw [hk]
  have hn' : i + 7 ≤ bROl S1 36 := by rw [e36]; exact hn
  have hl' : bROl S1 36 < 2 ^ 31 := by rw [e36]; exact hl
  show Wp d 266 957 [some (vR 36 0 0), some (vR 0 0 0), some (vR 40 0 0), some (vI (nI i))] [] S Q
  refine (w_aload_n (show ins 266 957 = some (.aload_n 1, 1) from by decide +kernel) rfl (by decide)).mpr ?_
  refine (w_aload_n (show ins 266 958 = some (.aload_n 0, 1) from by decide +kernel) rfl (by decide)).mpr ?_
  refine (w_iload_n (show ins 266 959 = some (.iload_n 3, 1) from by decide +kernel) rfl).mpr ?_
  refine (w_iconst (x := 1) (show ins 266 960 = some (.iconst 1, 1) from by decide +kernel) (by decide)).mpr ?_
  refine (w_iadd (show ins 266 961 = some (.iadd, 1) from by decide +kernel)).mpr ?_
  refine (w_rald (k0 := 36) (n := i + 1) (show ins 266 962 = some (.iaload, 1) from by decide +kernel) rfl rfl (qI_add i 1).symm (by omega) hl).mpr ?_
  refine (w_aload_n (show ins 266 963 = some (.aload_n 0, 1) from by decide +kernel) rfl (by decide)).mpr ?_
  refine (w_iload_n (show ins 266 964 = some (.iload_n 3, 1) from by decide +kernel) rfl).mpr ?_
  refine (w_iconst (x := 2) (show ins 266 965 = some (.iconst 2, 1) from by decide +kernel) (by decide)).mpr ?_
  refine (w_iadd (show ins 266 966 = some (.iadd, 1) from by decide +kernel)).mpr ?_
  refine (w_rald (k0 := 36) (n := i + 2) (show ins 266 967 = some (.iaload, 1) from by decide +kernel) rfl rfl (qI_add i 2).symm (by omega) hl).mpr ?_
  refine (w_callV (k0 := 0) (i0 := 0) (j0 := 0) (As := [vI (S 36 0 0 (i + 1)), vI (S 36 0 0 (i + 2))]) (st' := []) hd (show ins 266 968 = some (.invokevirtual 126, 3) from by decide +kernel) (show bck1 266 126 123 3 false = true from by decide +kernel) rfl rfl (Nat.le_of_ble_eq_true rfl) (by decide +kernel) (by decide) h1).mpr ?_
  refine (w_aload_n (show ins 266 971 = some (.aload_n 2, 1) from by decide +kernel) rfl (by decide)).mpr ?_
  refine (w_aload_n (show ins 266 972 = some (.aload_n 0, 1) from by decide +kernel) rfl (by decide)).mpr ?_
  refine (w_iload_n (show ins 266 973 = some (.iload_n 3, 1) from by decide +kernel) rfl).mpr ?_
  refine (w_iconst (x := 1) (show ins 266 974 = some (.iconst 1, 1) from by decide +kernel) (by decide)).mpr ?_
  refine (w_iadd (show ins 266 975 = some (.iadd, 1) from by decide +kernel)).mpr ?_
  refine (w_rald (k0 := 36) (n := i + 1) (show ins 266 976 = some (.iaload, 1) from by decide +kernel) rfl rfl (qI_add i 1).symm (by omega) hl').mpr ?_
  rw [hk 0 0 (i + 1)]
  refine (w_aload_n (show ins 266 977 = some (.aload_n 0, 1) from by decide +kernel) rfl (by decide)).mpr ?_
  refine (w_iload_n (show ins 266 978 = some (.iload_n 3, 1) from by decide +kernel) rfl).mpr ?_
  refine (w_iconst (x := 2) (show ins 266 979 = some (.iconst 2, 1) from by decide +kernel) (by decide)).mpr ?_
  refine (w_iadd (show ins 266 980 = some (.iadd, 1) from by decide +kernel)).mpr ?_
  refine (w_rald (k0 := 36) (n := i + 2) (show ins 266 981 = some (.iaload, 1) from by decide +kernel) rfl rfl (qI_add i 2).symm (by omega) hl').mpr ?_
  rw [hk 0 0 (i + 2)]
  refine (w_callV (k0 := 40) (i0 := 0) (j0 := 0) (As := [vI (S 36 0 0 (i + 1)), vI (S 36 0 0 (i + 2))]) (st' := [vI r]) hd (show ins 266 982 = some (.invokevirtual 129, 3) from by decide +kernel) (show bck1 266 129 238 3 false = true from by decide +kernel) rfl rfl (Nat.le_of_ble_eq_true rfl) (by decide +kernel) (by decide) h2).mpr ?_
  refine (w_icmpeq (t := 1088) (show ins 266 985 = some (.if_icmp .eq 103, 3) from by decide +kernel) (by decide)).mpr ?_
  rw [if_pos rfl]
  exact hq
theorem L_990 {d : Nat} {S S1 S2 : bSt} {Q : Option bV → bSt → Prop} {i : Nat} {r : Int32} (hd : 0 < d) (hn : i + 7 ≤ bROl S 36) (hl : bROl S 36 < 2 ^ 31) (hk : ∀ i' j m, S1 36 i' j m = S 36 i' j m) (h1 : Ret (d - 1) 124 [vR 0 0 0] S (some (vI r)) S1) (h2 : Ret (d - 1) 246 [vR 40 0 0] S1 (some (vI r)) S2) (hq : Wp d 266 1088 (Lf i) [] S2 Q) : Wp d 266 990 (Lf i) [] S Q := by
  have e36 : bROl S1 36 = bROl S 36 := by unfold bROl; rw [hk]
  have hn' : i + 7 ≤ bROl S1 36 := by rw [e36]; exact hn
  have hl' : bROl S1 36 < 2 ^ 31 := by rw [e36]; exact hl
  show Wp d 266 990 [some (vR 36 0 0), some (vR 0 0 0), some (vR 40 0 0), some (vI (nI i))] [] S Q
  refine (w_aload_n (show ins 266 990 = some (.aload_n 1, 1) from by decide +kernel) rfl (by decide)).mpr ?_
  refine (w_callV (k0 := 0) (i0 := 0) (j0 := 0) (As := []) (st' := []) hd (show ins 266 991 = some (.invokevirtual 130, 3) from by decide +kernel) (show bck1 266 130 124 1 false = true from by decide +kernel) rfl rfl (Nat.le_of_ble_eq_true rfl) (by decide +kernel) (by decide) h1).mpr ?_
  refine (w_aload_n (show ins 266 994 = some (.aload_n 2, 1) from by decide +kernel) rfl (by decide)).mpr ?_
  refine (w_callV (k0 := 40) (i0 := 0) (j0 := 0) (As := []) (st' := [vI r]) hd (show ins 266 995 = some (.invokevirtual 133, 3) from by decide +kernel) (show bck1 266 133 246 1 false = true from by decide +kernel) rfl rfl (Nat.le_of_ble_eq_true rfl) (by decide +kernel) (by decide) h2).mpr ?_
  refine (w_icmpeq (t := 1088) (show ins 266 998 = some (.if_icmp .eq 90, 3) from by decide +kernel) (by decide)).mpr ?_
  rw [if_pos rfl]
  exact hq
theorem L_1003 {d : Nat} {S S1 S2 : bSt} {Q : Option bV → bSt → Prop} {i : Nat} {r : Int32} (hd : 0 < d) (hn : i + 7 ≤ bROl S 36) (hl : bROl S 36 < 2 ^ 31) (hk : ∀ i' j m, S1 36 i' j m = S 36 i' j m) (h1 : Ret (d - 1) 125 [vR 0 0 0, vI (S 36 0 0 (i + 1))] S (some (vI r)) S1) (h2 : Ret (d - 1) 247 [vR 40 0 0, vI (S 36 0 0 (i + 1))] S1 (some (vI r)) S2) (hq : Wp d 266 1088 (Lf i) [] S2 Q) : Wp d 266 1003 (Lf i) [] S Q := by
  have e36 : bROl S1 36 = bROl S 36 := by unfold bROl; rw [hk]
  have hn' : i + 7 ≤ bROl S1 36 := by rw [e36]; exact hn
  have hl' : bROl S1 36 < 2 ^ 31 := by rw [e36]; exact hl
  show Wp d 266 1003 [some (vR 36 0 0), some (vR 0 0 0), some (vR 40 0 0), some (vI (nI i))] [] S Q
  refine (w_aload_n (show ins 266 1003 = some (.aload_n 1, 1) from by decide +kernel) rfl (by decide)).mpr ?_
  refine (w_aload_n (show ins 266 1004 = some (.aload_n 0, 1) from by decide +kernel) rfl (by decide)).mpr ?_
  refine (w_iload_n (show ins 266 1005 = some (.iload_n 3, 1) from by decide +kernel) rfl).mpr ?_
  refine (w_iconst (x := 1) (show ins 266 1006 = some (.iconst 1, 1) from by decide +kernel) (by decide)).mpr ?_
  refine (w_iadd (show ins 266 1007 = some (.iadd, 1) from by decide +kernel)).mpr ?_
  refine (w_rald (k0 := 36) (n := i + 1) (show ins 266 1008 = some (.iaload, 1) from by decide +kernel) rfl rfl (qI_add i 1).symm (by omega) hl).mpr ?_
  refine (w_callV (k0 := 0) (i0 := 0) (j0 := 0) (As := [vI (S 36 0 0 (i + 1))]) (st' := []) hd (show ins 266 1009 = some (.invokevirtual 134, 3) from by decide +kernel) (show bck1 266 134 125 2 false = true from by decide +kernel) rfl rfl (Nat.le_of_ble_eq_true rfl) (by decide +kernel) (by decide) h1).mpr ?_
  refine (w_aload_n (show ins 266 1012 = some (.aload_n 2, 1) from by decide +kernel) rfl (by decide)).mpr ?_
  refine (w_aload_n (show ins 266 1013 = some (.aload_n 0, 1) from by decide +kernel) rfl (by decide)).mpr ?_
  refine (w_iload_n (show ins 266 1014 = some (.iload_n 3, 1) from by decide +kernel) rfl).mpr ?_
  refine (w_iconst (x := 1) (show ins 266 1015 = some (.iconst 1, 1) from by decide +kernel) (by decide)).mpr ?_
  refine (w_iadd (show ins 266 1016 = some (.iadd, 1) from by decide +kernel)).mpr ?_
  refine (w_rald (k0 := 36) (n := i + 1) (show ins 266 1017 = some (.iaload, 1) from by decide +kernel) rfl rfl (qI_add i 1).symm (by omega) hl').mpr ?_
  rw [hk 0 0 (i + 1)]
  refine (w_callV (k0 := 40) (i0 := 0) (j0 := 0) (As := [vI (S 36 0 0 (i + 1))]) (st' := [vI r]) hd (show ins 266 1018 = some (.invokevirtual 137, 3) from by decide +kernel) (show bck1 266 137 247 2 false = true from by decide +kernel) rfl rfl (Nat.le_of_ble_eq_true rfl) (by decide +kernel) (by decide) h2).mpr ?_
  refine (w_icmpeq (t := 1088) (show ins 266 1021 = some (.if_icmp .eq 67, 3) from by decide +kernel) (by decide)).mpr ?_
  rw [if_pos rfl]
  exact hq
theorem L_1026 {d : Nat} {S S1 S2 : bSt} {Q : Option bV → bSt → Prop} {i : Nat} {r : Int32} (hd : 0 < d) (hn : i + 7 ≤ bROl S 36) (hl : bROl S 36 < 2 ^ 31) (hk : ∀ i' j m, S1 36 i' j m = S 36 i' j m) (h1 : Ret (d - 1) 126 [vR 0 0 0] S (some (vI r)) S1) (h2 : Ret (d - 1) 248 [vR 40 0 0] S1 (some (vI r)) S2) (hq : Wp d 266 1088 (Lf i) [] S2 Q) : Wp d 266 1026 (Lf i) [] S Q := by
  have e36 : bROl S1 36 = bROl S 36 := by unfold bROl; rw [hk]
  have hn' : i + 7 ≤ bROl S1 36 := by rw [e36]; exact hn
  have hl' : bROl S1 36 < 2 ^ 31 := by rw [e36]; exact hl
  show Wp d 266 1026 [some (vR 36 0 0), some (vR 0 0 0), some (vR 40 0 0), some (vI (nI i))] [] S Q
  refine (w_aload_n (show ins 266 1026 = some (.aload_n 1, 1) from by decide +kernel) rfl (by decide)).mpr ?_
  refine (w_callV (k0 := 0) (i0 := 0) (j0 := 0) (As := []) (st' := []) hd (show ins 266 1027 = some (.invokevirtual 138, 3) from by decide +kernel) (show bck1 266 138 126 1 false = true from by decide +kernel) rfl rfl (Nat.le_of_ble_eq_true rfl) (by decide +kernel) (by decide) h1).mpr ?_
  refine (w_aload_n (show ins 266 1030 = some (.aload_n 2, 1) from by decide +kernel) rfl (by decide)).mpr ?_
  refine (w_callV (k0 := 40) (i0 := 0) (j0 := 0) (As := []) (st' := [vI r]) hd (show ins 266 1031 = some (.invokevirtual 141, 3) from by decide +kernel) (show bck1 266 141 248 1 false = true from by decide +kernel) rfl rfl (Nat.le_of_ble_eq_true rfl) (by decide +kernel) (by decide) h2).mpr ?_
  refine (w_icmpeq (t := 1088) (show ins 266 1034 = some (.if_icmp .eq 54, 3) from by decide +kernel) (by decide)).mpr ?_
  rw [if_pos rfl]
  exact hq
theorem L_1039 {d : Nat} {S S1 S2 : bSt} {Q : Option bV → bSt → Prop} {i : Nat} {r : Int32} (hd : 0 < d) (hn : i + 7 ≤ bROl S 36) (hl : bROl S 36 < 2 ^ 31) (hk : ∀ i' j m, S1 36 i' j m = S 36 i' j m) (h1 : Ret (d - 1) 127 [vR 0 0 0] S (some (vI r)) S1) (h2 : Ret (d - 1) 249 [vR 40 0 0] S1 (some (vI r)) S2) (hq : Wp d 266 1088 (Lf i) [] S2 Q) : Wp d 266 1039 (Lf i) [] S Q := by
  have e36 : bROl S1 36 = bROl S 36 := by unfold bROl; rw [hk]
  have hn' : i + 7 ≤ bROl S1 36 := by rw [e36]; exact hn
  have hl' : bROl S1 36 < 2 ^ 31 := by rw [e36]; exact hl
  show Wp d 266 1039 [some (vR 36 0 0), some (vR 0 0 0), some (vR 40 0 0), some (vI (nI i))] [] S Q
  refine (w_aload_n (show ins 266 1039 = some (.aload_n 1, 1) from by decide +kernel) rfl (by decide)).mpr ?_
  refine (w_callV (k0 := 0) (i0 := 0) (j0 := 0) (As := []) (st' := []) hd (show ins 266 1040 = some (.invokevirtual 142, 3) from by decide +kernel) (show bck1 266 142 127 1 false = true from by decide +kernel) rfl rfl (Nat.le_of_ble_eq_true rfl) (by decide +kernel) (by decide) h1).mpr ?_
  refine (w_aload_n (show ins 266 1043 = some (.aload_n 2, 1) from by decide +kernel) rfl (by decide)).mpr ?_
  refine (w_callV (k0 := 40) (i0 := 0) (j0 := 0) (As := []) (st' := [vI r]) hd (show ins 266 1044 = some (.invokevirtual 145, 3) from by decide +kernel) (show bck1 266 145 249 1 false = true from by decide +kernel) rfl rfl (Nat.le_of_ble_eq_true rfl) (by decide +kernel) (by decide) h2).mpr ?_
  refine (w_icmpeq (t := 1088) (show ins 266 1047 = some (.if_icmp .eq 41, 3) from by decide +kernel) (by decide)).mpr ?_
  rw [if_pos rfl]
  exact hq
theorem L_1052 {d : Nat} {S S1 S2 : bSt} {Q : Option bV → bSt → Prop} {i : Nat} {r : Int32} (hd : 0 < d) (hn : i + 7 ≤ bROl S 36) (hl : bROl S 36 < 2 ^ 31) (hk : ∀ i' j m, S1 36 i' j m = S 36 i' j m) (h1 : Ret (d - 1) 128 [vR 0 0 0] S (some (vI r)) S1) (h2 : Ret (d - 1) 250 [vR 40 0 0] S1 (some (vI r)) S2) (hq : Wp d 266 1088 (Lf i) [] S2 Q) : Wp d 266 1052 (Lf i) [] S Q := by
  have e36 : bROl S1 36 = bROl S 36 := by unfold bROl; rw [hk]
  have hn' : i + 7 ≤ bROl S1 36 := by rw [e36]; exact hn
  have hl' : bROl S1 36 < 2 ^ 31 := by rw [e36]; exact hl
  show Wp d 266 1052 [some (vR 36 0 0), some (vR 0 0 0), some (vR 40 0 0), some (vI (nI i))] [] S Q
  refine (w_aload_n (show ins 266 1052 = some (.aload_n 1, 1) from by decide +kernel) rfl (by decide)).mpr ?_
  refine (w_callV (k0 := 0) (i0 := 0) (j0 := 0) (As := []) (st' := []) hd (show ins 266 1053 = some (.invokevirtual 146, 3) from by decide +kernel) (show bck1 266 146 128 1 false = true from by decide +kernel) rfl rfl (Nat.le_of_ble_eq_true rfl) (by decide +kernel) (by decide) h1).mpr ?_
  refine (w_aload_n (show ins 266 1056 = some (.aload_n 2, 1) from by decide +kernel) rfl (by decide)).mpr ?_
  refine (w_callV (k0 := 40) (i0 := 0) (j0 := 0) (As := []) (st' := [vI r]) hd (show ins 266 1057 = some (.invokevirtual 149, 3) from by decide +kernel) (show bck1 266 149 250 1 false = true from by decide +kernel) rfl rfl (Nat.le_of_ble_eq_true rfl) (by decide +kernel) (by decide) h2).mpr ?_
  refine (w_icmpeq (t := 1088) (show ins 266 1060 = some (.if_icmp .eq 28, 3) from by decide +kernel) (by decide)).mpr ?_
  rw [if_pos rfl]
  exact hq
theorem L_1065 {d : Nat} {S S1 S2 : bSt} {Q : Option bV → bSt → Prop} {i : Nat} {r : Int32} (hd : 0 < d) (hn : i + 7 ≤ bROl S 36) (hl : bROl S 36 < 2 ^ 31) (hk : ∀ i' j m, S1 36 i' j m = S 36 i' j m) (h1 : Ret (d - 1) 129 [vR 0 0 0, vI (S 36 0 0 (i + 1))] S (some (vI r)) S1) (h2 : Ret (d - 1) 251 [vR 40 0 0, vI (S 36 0 0 (i + 1))] S1 (some (vI r)) S2) (hq : Wp d 266 1088 (Lf i) [] S2 Q) : Wp d 266 1065 (Lf i) [] S Q := by
  have e36 : bROl S1 36 = bROl S 36 := by unfold bROl; rw [hk]
  have hn' : i + 7 ≤ bROl S1 36 := by rw [e36]; exact hn
  have hl' : bROl S1 36 < 2 ^ 31 := by rw [e36]; exact hl
  show Wp d 266 1065 [some (vR 36 0 0), some (vR 0 0 0), some (vR 40 0 0), some (vI (nI i))] [] S Q
  refine (w_aload_n (show ins 266 1065 = some (.aload_n 1, 1) from by decide +kernel) rfl (by decide)).mpr ?_
  refine (w_aload_n (show ins 266 1066 = some (.aload_n 0, 1) from by decide +kernel) rfl (by decide)).mpr ?_
  refine (w_iload_n (show ins 266 1067 = some (.iload_n 3, 1) from by decide +kernel) rfl).mpr ?_
  refine (w_iconst (x := 1) (show ins 266 1068 = some (.iconst 1, 1) from by decide +kernel) (by decide)).mpr ?_
  refine (w_iadd (show ins 266 1069 = some (.iadd, 1) from by decide +kernel)).mpr ?_
  refine (w_rald (k0 := 36) (n := i + 1) (show ins 266 1070 = some (.iaload, 1) from by decide +kernel) rfl rfl (qI_add i 1).symm (by omega) hl).mpr ?_
  refine (w_callV (k0 := 0) (i0 := 0) (j0 := 0) (As := [vI (S 36 0 0 (i + 1))]) (st' := []) hd (show ins 266 1071 = some (.invokevirtual 150, 3) from by decide +kernel) (show bck1 266 150 129 2 false = true from by decide +kernel) rfl rfl (Nat.le_of_ble_eq_true rfl) (by decide +kernel) (by decide) h1).mpr ?_
  refine (w_aload_n (show ins 266 1074 = some (.aload_n 2, 1) from by decide +kernel) rfl (by decide)).mpr ?_
  refine (w_aload_n (show ins 266 1075 = some (.aload_n 0, 1) from by decide +kernel) rfl (by decide)).mpr ?_
  refine (w_iload_n (show ins 266 1076 = some (.iload_n 3, 1) from by decide +kernel) rfl).mpr ?_
  refine (w_iconst (x := 1) (show ins 266 1077 = some (.iconst 1, 1) from by decide +kernel) (by decide)).mpr ?_
  refine (w_iadd (show ins 266 1078 = some (.iadd, 1) from by decide +kernel)).mpr ?_
  refine (w_rald (k0 := 36) (n := i + 1) (show ins 266 1079 = some (.iaload, 1) from by decide +kernel) rfl rfl (qI_add i 1).symm (by omega) hl').mpr ?_
  rw [hk 0 0 (i + 1)]
  refine (w_callV (k0 := 40) (i0 := 0) (j0 := 0) (As := [vI (S 36 0 0 (i + 1))]) (st' := [vI r]) hd (show ins 266 1080 = some (.invokevirtual 153, 3) from by decide +kernel) (show bck1 266 153 251 2 false = true from by decide +kernel) rfl rfl (Nat.le_of_ble_eq_true rfl) (by decide +kernel) (by decide) h2).mpr ?_
  refine (w_icmpeq (t := 1088) (show ins 266 1083 = some (.if_icmp .eq 5, 3) from by decide +kernel) (by decide)).mpr ?_
  rw [if_pos rfl]
  exact hq
theorem sw33 : ins 266 33 = some (.tableswitch 1055 0 33 #[151, 184, 259, 302, 335, 368, 391, 414, 437, 470, 493, 516, 549, 572, 585, 608, 641, 674, 707, 740, 773, 796, 819, 842, 855, 878, 901, 924, 957, 970, 993, 1006, 1019, 1032], 151) := by decide +kernel
theorem X_266_33 {d : Nat} {S : bSt} {Q : Option bV → bSt → Prop} {ls : List (Option bV)} {st : List bV} {x : Int32} (h0 : Wp d 266 184 ls st S Q) (h1 : Wp d 266 217 ls st S Q) (h2 : Wp d 266 292 ls st S Q) (h3 : Wp d 266 335 ls st S Q) (h4 : Wp d 266 368 ls st S Q) (h5 : Wp d 266 401 ls st S Q) (h6 : Wp d 266 424 ls st S Q) (h7 : Wp d 266 447 ls st S Q) (h8 : Wp d 266 470 ls st S Q) (h9 : Wp d 266 503 ls st S Q) (h10 : Wp d 266 526 ls st S Q) (h11 : Wp d 266 549 ls st S Q) (h12 : Wp d 266 582 ls st S Q) (h13 : Wp d 266 605 ls st S Q) (h14 : Wp d 266 618 ls st S Q) (h15 : Wp d 266 641 ls st S Q) (h16 : Wp d 266 674 ls st S Q) (h17 : Wp d 266 707 ls st S Q) (h18 : Wp d 266 740 ls st S Q) (h19 : Wp d 266 773 ls st S Q) (h20 : Wp d 266 806 ls st S Q) (h21 : Wp d 266 829 ls st S Q) (h22 : Wp d 266 852 ls st S Q) (h23 : Wp d 266 875 ls st S Q) (h24 : Wp d 266 888 ls st S Q) (h25 : Wp d 266 911 ls st S Q) (h26 : Wp d 266 934 ls st S Q) (h27 : Wp d 266 957 ls st S Q) (h28 : Wp d 266 990 ls st S Q) (h29 : Wp d 266 1003 ls st S Q) (h30 : Wp d 266 1026 ls st S Q) (h31 : Wp d 266 1039 ls st S Q) (h32 : Wp d 266 1052 ls st S Q) (h33 : Wp d 266 1065 ls st S Q) (hd : Wp d 266 1088 ls st S Q) : Wp d 266 33 ls (vI x :: st) S Q := by
  by_cases g0 : x = 0
  · subst g0
    exact (w_switch_in (m := 0) (t := 184) sw33 (by decide) (by decide) rfl (by decide) (by decide)).mpr h0
  by_cases g1 : x = 1
  · subst g1
    exact (w_switch_in (m := 1) (t := 217) sw33 (by decide) (by decide) rfl (by decide) (by decide)).mpr h1
  by_cases g2 : x = 2
  · subst g2
    exact (w_switch_in (m := 2) (t := 292) sw33 (by decide) (by decide) rfl (by decide) (by decide)).mpr h2
  by_cases g3 : x = 3
  · subst g3
    exact (w_switch_in (m := 3) (t := 335) sw33 (by decide) (by decide) rfl (by decide) (by decide)).mpr h3
  by_cases g4 : x = 4
  · subst g4
    exact (w_switch_in (m := 4) (t := 368) sw33 (by decide) (by decide) rfl (by decide) (by decide)).mpr h4
  by_cases g5 : x = 5
  · subst g5
    exact (w_switch_in (m := 5) (t := 401) sw33 (by decide) (by decide) rfl (by decide) (by decide)).mpr h5
  by_cases g6 : x = 6
  · subst g6
    exact (w_switch_in (m := 6) (t := 424) sw33 (by decide) (by decide) rfl (by decide) (by decide)).mpr h6
  by_cases g7 : x = 7
  · subst g7
    exact (w_switch_in (m := 7) (t := 447) sw33 (by decide) (by decide) rfl (by decide) (by decide)).mpr h7
  by_cases g8 : x = 8
  · subst g8
    exact (w_switch_in (m := 8) (t := 470) sw33 (by decide) (by decide) rfl (by decide) (by decide)).mpr h8
  by_cases g9 : x = 9
  · subst g9
    exact (w_switch_in (m := 9) (t := 503) sw33 (by decide) (by decide) rfl (by decide) (by decide)).mpr h9
  by_cases g10 : x = 10
  · subst g10
    exact (w_switch_in (m := 10) (t := 526) sw33 (by decide) (by decide) rfl (by decide) (by decide)).mpr h10
  by_cases g11 : x = 11
  · subst g11
    exact (w_switch_in (m := 11) (t := 549) sw33 (by decide) (by decide) rfl (by decide) (by decide)).mpr h11
  by_cases g12 : x = 12
  · subst g12
    exact (w_switch_in (m := 12) (t := 582) sw33 (by decide) (by decide) rfl (by decide) (by decide)).mpr h12
  by_cases g13 : x = 13
  · subst g13
    exact (w_switch_in (m := 13) (t := 605) sw33 (by decide) (by decide) rfl (by decide) (by decide)).mpr h13
  by_cases g14 : x = 14
  · subst g14
    exact (w_switch_in (m := 14) (t := 618) sw33 (by decide) (by decide) rfl (by decide) (by decide)).mpr h14
  by_cases g15 : x = 15
  · subst g15
    exact (w_switch_in (m := 15) (t := 641) sw33 (by decide) (by decide) rfl (by decide) (by decide)).mpr h15
  by_cases g16 : x = 16
  · subst g16
    exact (w_switch_in (m := 16) (t := 674) sw33 (by decide) (by decide) rfl (by decide) (by decide)).mpr h16
  by_cases g17 : x = 17
  · subst g17
    exact (w_switch_in (m := 17) (t := 707) sw33 (by decide) (by decide) rfl (by decide) (by decide)).mpr h17
  by_cases g18 : x = 18
  · subst g18
    exact (w_switch_in (m := 18) (t := 740) sw33 (by decide) (by decide) rfl (by decide) (by decide)).mpr h18
  by_cases g19 : x = 19
  · subst g19
    exact (w_switch_in (m := 19) (t := 773) sw33 (by decide) (by decide) rfl (by decide) (by decide)).mpr h19
  by_cases g20 : x = 20
  · subst g20
    exact (w_switch_in (m := 20) (t := 806) sw33 (by decide) (by decide) rfl (by decide) (by decide)).mpr h20
  by_cases g21 : x = 21
  · subst g21
    exact (w_switch_in (m := 21) (t := 829) sw33 (by decide) (by decide) rfl (by decide) (by decide)).mpr h21
  by_cases g22 : x = 22
  · subst g22
    exact (w_switch_in (m := 22) (t := 852) sw33 (by decide) (by decide) rfl (by decide) (by decide)).mpr h22
  by_cases g23 : x = 23
  · subst g23
    exact (w_switch_in (m := 23) (t := 875) sw33 (by decide) (by decide) rfl (by decide) (by decide)).mpr h23
  by_cases g24 : x = 24
  · subst g24
    exact (w_switch_in (m := 24) (t := 888) sw33 (by decide) (by decide) rfl (by decide) (by decide)).mpr h24
  by_cases g25 : x = 25
  · subst g25
    exact (w_switch_in (m := 25) (t := 911) sw33 (by decide) (by decide) rfl (by decide) (by decide)).mpr h25
  by_cases g26 : x = 26
  · subst g26
    exact (w_switch_in (m := 26) (t := 934) sw33 (by decide) (by decide) rfl (by decide) (by decide)).mpr h26
  by_cases g27 : x = 27
  · subst g27
    exact (w_switch_in (m := 27) (t := 957) sw33 (by decide) (by decide) rfl (by decide) (by decide)).mpr h27
  by_cases g28 : x = 28
  · subst g28
    exact (w_switch_in (m := 28) (t := 990) sw33 (by decide) (by decide) rfl (by decide) (by decide)).mpr h28
  by_cases g29 : x = 29
  · subst g29
    exact (w_switch_in (m := 29) (t := 1003) sw33 (by decide) (by decide) rfl (by decide) (by decide)).mpr h29
  by_cases g30 : x = 30
  · subst g30
    exact (w_switch_in (m := 30) (t := 1026) sw33 (by decide) (by decide) rfl (by decide) (by decide)).mpr h30
  by_cases g31 : x = 31
  · subst g31
    exact (w_switch_in (m := 31) (t := 1039) sw33 (by decide) (by decide) rfl (by decide) (by decide)).mpr h31
  by_cases g32 : x = 32
  · subst g32
    exact (w_switch_in (m := 32) (t := 1052) sw33 (by decide) (by decide) rfl (by decide) (by decide)).mpr h32
  by_cases g33 : x = 33
  · subst g33
    exact (w_switch_in (m := 33) (t := 1065) sw33 (by decide) (by decide) rfl (by decide) (by decide)).mpr h33
  have k0 : x.toInt ≠ 0 := fun q => g0 (Int32.toInt_inj.mp (q.trans (by decide)))
  have k1 : x.toInt ≠ 1 := fun q => g1 (Int32.toInt_inj.mp (q.trans (by decide)))
  have k2 : x.toInt ≠ 2 := fun q => g2 (Int32.toInt_inj.mp (q.trans (by decide)))
  have k3 : x.toInt ≠ 3 := fun q => g3 (Int32.toInt_inj.mp (q.trans (by decide)))
  have k4 : x.toInt ≠ 4 := fun q => g4 (Int32.toInt_inj.mp (q.trans (by decide)))
  have k5 : x.toInt ≠ 5 := fun q => g5 (Int32.toInt_inj.mp (q.trans (by decide)))
  have k6 : x.toInt ≠ 6 := fun q => g6 (Int32.toInt_inj.mp (q.trans (by decide)))
  have k7 : x.toInt ≠ 7 := fun q => g7 (Int32.toInt_inj.mp (q.trans (by decide)))
  have k8 : x.toInt ≠ 8 := fun q => g8 (Int32.toInt_inj.mp (q.trans (by decide)))
  have k9 : x.toInt ≠ 9 := fun q => g9 (Int32.toInt_inj.mp (q.trans (by decide)))
  have k10 : x.toInt ≠ 10 := fun q => g10 (Int32.toInt_inj.mp (q.trans (by decide)))
  have k11 : x.toInt ≠ 11 := fun q => g11 (Int32.toInt_inj.mp (q.trans (by decide)))
  have k12 : x.toInt ≠ 12 := fun q => g12 (Int32.toInt_inj.mp (q.trans (by decide)))
  have k13 : x.toInt ≠ 13 := fun q => g13 (Int32.toInt_inj.mp (q.trans (by decide)))
  have k14 : x.toInt ≠ 14 := fun q => g14 (Int32.toInt_inj.mp (q.trans (by decide)))
  have k15 : x.toInt ≠ 15 := fun q => g15 (Int32.toInt_inj.mp (q.trans (by decide)))
  have k16 : x.toInt ≠ 16 := fun q => g16 (Int32.toInt_inj.mp (q.trans (by decide)))
  have k17 : x.toInt ≠ 17 := fun q => g17 (Int32.toInt_inj.mp (q.trans (by decide)))
  have k18 : x.toInt ≠ 18 := fun q => g18 (Int32.toInt_inj.mp (q.trans (by decide)))
  have k19 : x.toInt ≠ 19 := fun q => g19 (Int32.toInt_inj.mp (q.trans (by decide)))
  have k20 : x.toInt ≠ 20 := fun q => g20 (Int32.toInt_inj.mp (q.trans (by decide)))
  have k21 : x.toInt ≠ 21 := fun q => g21 (Int32.toInt_inj.mp (q.trans (by decide)))
  have k22 : x.toInt ≠ 22 := fun q => g22 (Int32.toInt_inj.mp (q.trans (by decide)))
  have k23 : x.toInt ≠ 23 := fun q => g23 (Int32.toInt_inj.mp (q.trans (by decide)))
  have k24 : x.toInt ≠ 24 := fun q => g24 (Int32.toInt_inj.mp (q.trans (by decide)))
  have k25 : x.toInt ≠ 25 := fun q => g25 (Int32.toInt_inj.mp (q.trans (by decide)))
  have k26 : x.toInt ≠ 26 := fun q => g26 (Int32.toInt_inj.mp (q.trans (by decide)))
  have k27 : x.toInt ≠ 27 := fun q => g27 (Int32.toInt_inj.mp (q.trans (by decide)))
  have k28 : x.toInt ≠ 28 := fun q => g28 (Int32.toInt_inj.mp (q.trans (by decide)))
  have k29 : x.toInt ≠ 29 := fun q => g29 (Int32.toInt_inj.mp (q.trans (by decide)))
  have k30 : x.toInt ≠ 30 := fun q => g30 (Int32.toInt_inj.mp (q.trans (by decide)))
  have k31 : x.toInt ≠ 31 := fun q => g31 (Int32.toInt_inj.mp (q.trans (by decide)))
  have k32 : x.toInt ≠ 32 := fun q => g32 (Int32.toInt_inj.mp (q.trans (by decide)))
  have k33 : x.toInt ≠ 33 := fun q => g33 (Int32.toInt_inj.mp (q.trans (by decide)))
  exact (w_switch_out (t := 1088) sw33 (by omega) (by decide)).mpr hd
theorem L_18 {d : Nat} {S : bSt} {Q : Option bV → bSt → Prop} {i : Nat} : Wp d 266 18 (Lf i) [] S Q ↔ if nI (bROl S 36) - 7 < nI i then Wp d 266 1094 (Lf i) [] S Q else Wp d 266 27 (Lf i) [] S Q := by
  unfold Lf
  refine (w_iload_n (show ins 266 18 = some (.iload_n 3, 1) from by decide +kernel) rfl).trans ?_
  refine (w_aload_n (show ins 266 19 = some (.aload_n 0, 1) from by decide +kernel) rfl (by decide)).trans ?_
  refine (w_ralen (k0 := 36) (show ins 266 20 = some (.arraylength, 1) from by decide +kernel) rfl rfl).trans ?_
  refine (w_bipush (x := 7) (show ins 266 21 = some (.bipush 7, 2) from by decide +kernel) (by decide)).trans ?_
  refine (w_isub (show ins 266 23 = some (.isub, 1) from by decide +kernel)).trans ?_
  exact w_icmpgt (t := 1094) (show ins 266 24 = some (.if_icmp .gt 1070, 3) from by decide +kernel) (by decide)
theorem L_27 {d : Nat} {S : bSt} {Q : Option bV → bSt → Prop} {i : Nat} (hn : i < bROl S 36) (hl : bROl S 36 < 2 ^ 31) : Wp d 266 27 (Lf i) [] S Q ↔ Wp d 266 33 (Lf i) [vI (S 36 0 0 i &&& 63)] S Q := by
  unfold Lf
  refine (w_aload_n (show ins 266 27 = some (.aload_n 0, 1) from by decide +kernel) rfl (by decide)).trans ?_
  refine (w_iload_n (show ins 266 28 = some (.iload_n 3, 1) from by decide +kernel) rfl).trans ?_
  refine (w_rald (k0 := 36) (n := i) (show ins 266 29 = some (.iaload, 1) from by decide +kernel) rfl rfl rfl hn hl).trans ?_
  refine (w_bipush (x := 63) (show ins 266 30 = some (.bipush 63, 2) from by decide +kernel) (by decide)).trans ?_
  exact w_iand (show ins 266 32 = some (.iand, 1) from by decide +kernel)
theorem L_1088 {d : Nat} {S : bSt} {Q : Option bV → bSt → Prop} {i : Nat} : Wp d 266 1088 (Lf i) [] S Q ↔ Wp d 266 18 (Lf (i + 7)) [] S Q := by
  unfold Lf
  refine (w_iinc (n := 3) (x := nI i) (y := 7) (show ins 266 1088 = some (.iinc 3 7, 3) from by decide +kernel) rfl (by decide) rfl).trans ?_
  rw [show nI i + 7 = nI (i + 7) from (qI_add i 7).symm]
  exact w_goto (t := 18) (show ins 266 1091 = some (.goto (-1073), 3) from by decide +kernel) (by decide)
theorem L_1094 {d : Nat} {S : bSt} {Q : Option bV → bSt → Prop} {i : Nat} : Wp d 266 1094 (Lf i) [] S Q ↔ Q (some (vI 1)) S := by
  unfold Lf
  refine (w_iconst (x := 1) (show ins 266 1094 = some (.iconst 1, 1) from by decide +kernel) (by decide)).trans ?_
  exact w_zret (show ins 266 1095 = some (.ireturn, 1) from by decide +kernel) (by decide +kernel) (Or.inr rfl)
