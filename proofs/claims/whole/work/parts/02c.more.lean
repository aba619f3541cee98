def zIn (m : Nat) : Cond := .initialized (zY m).cls
set_option maxRecDepth 100000 in
theorem z_init : ∀ q ∈ List.range zNm, zIn q ∈ lw_tbl := z_places zIn _ lw_tbl [125, 125, 125, 125, 125, 125, 116, 116, 116, 116, 116, 116, 116, 116, 116, 116, 116, 115, 115, 115, 115, 115, 115, 115, 115, 115, 115, 115, 115, 115, 115, 115, 115, 115, 122, 122, 122, 122, 122, 122, 117, 117, 117, 121, 121, 121, 121, 121, 121, 121, 121, 119, 119, 119, 119, 119, 119, 119, 119, 119, 118, 118, 118, 118, 118, 118, 118, 118, 118, 118, 118, 123, 123, 123, 123, 123, 123, 123, 123, 123, 123, 114, 114, 114, 114, 114, 114, 114, 124, 124, 124, 124, 124, 124, 124, 113, 113, 113, 113, 113, 113, 113, 113, 113, 113, 113, 113, 113, 113, 113, 113, 113, 113, 113, 113, 113, 113, 113, 113, 113, 113, 113, 113, 113, 113, 113, 113, 113, 113, 113, 113, 113, 113, 113, 113, 113, 113, 113, 113, 126, 126, 126, 126, 126, 126, 126, 126, 126, 126, 126, 126, 126, 126, 126, 126, 126, 126, 126, 126, 126, 126, 126, 126, 126, 126, 126, 126, 126, 126, 126, 126, 126, 126, 126, 126, 126, 126, 126, 126, 126, 126, 126, 126, 126, 126, 126, 126, 126, 126, 126, 126, 126, 126, 126, 126, 126, 126, 126, 126, 126, 126, 126, 126, 126, 126, 126, 126, 126, 126, 126, 126, 126, 126, 126, 126, 126, 126, 126, 126, 126, 126, 126, 126, 126, 126, 126, 126, 126, 126, 126, 126, 126, 126, 126, 126, 126, 126, 126, 126, 126, 126, 126, 126, 126, 126, 126, 126, 126, 126, 126, 112, 132] (by decide +kernel)
abbrev zKl : List (Nat × Nat × Int) := [(8, 41, 1000000), (11, 241, 1000000), (11, 313, 1048576), (11, 320, 65535), (11, 324, 65536), (12, 216, 1048576), (12, 392, 1000000000), (12, 472, 65535), (12, 473, 65536)]
def zK (o i : Nat) : Option Int := (zKl.find? (fun q => q.1 == o && q.2.1 == i)).map (fun q => q.2.2)
def zKw (q : Nat × Nat × Int) : Cond := .constant (zCn q.1) q.2.1 (Int32.ofInt q.2.2)
theorem zKl_ok : ∀ q ∈ zKl, zKw q ∈ lw_tbl := z_places zKw zKl lw_tbl [964, 985, 1135, 1141, 1146, 1472, 1700, 1813, 1818] (by decide +kernel)
abbrev zSl : List (Nat × Nat) := [(1, 41), (2, 102), (6, 11)]
def zSt (o i : Nat) : Bool := zSl.any (fun q => q.1 == o && q.2 == i)
abbrev zNl1 : List (Nat × Nat × Nat) := [(0, 9, 7), (2, 7, 1), (6, 9, 1), (11, 7, 9), (11, 16, 2), (11, 35, 4), (11, 42, 7), (11, 58, 6), (11, 67, 5), (11, 74, 3), (11, 83, 8), (11, 92, 10), (11, 99, 0), (13, 7, 11), (13, 10, 12)]
def zN (o i : Nat) : Option Nat := (zNl1.find? (fun q => q.1 == o && q.2.1 == i)).map (fun q => q.2.2)
def zNw (q : Nat × Nat × Nat) : Cond := .classLink (zCn q.1) q.2.1 (zCn q.2.2)
theorem zNl_ok : ∀ q ∈ zNl1, zNw q ∈ lw_tbl := z_places zNw zNl1 lw_tbl [457, 164, 320, 142, 158, 220, 246, 303, 355, 385, 404, 431, 451, 134, 1176] (by decide +kernel)
def zIsw (c : Nat) : Cond := .instantiable (zCn c) (zNf c)
theorem z_inst : ∀ q ∈ List.range 13, zIsw q ∈ lw_tbl := z_places zIsw _ lw_tbl [452, 165, 159, 386, 221, 356, 304, 247, 405, 143, 432, 135, 1177] (by decide +kernel)
set_option maxRecDepth 100000 in
theorem z_lay_0 : ∀ q ∈ List.range (zNf 0), u_lay (zCn 0) (zT 0) q ∈ lw_tbl := z_places (u_lay (zCn 0) (zT 0)) _ lw_tbl [470, 472, 474, 476, 478, 480, 482, 484, 486, 488] (by decide +kernel)
set_option maxRecDepth 100000 in
theorem z_lay_1 : ∀ q ∈ List.range (zNf 1), u_lay (zCn 1) (zT 1) q ∈ lw_tbl := z_places (u_lay (zCn 1) (zT 1)) _ lw_tbl [183, 185, 187, 189, 191, 193, 195, 197, 199, 201] (by decide +kernel)
set_option maxRecDepth 100000 in
theorem z_lay_2 : ∀ q ∈ List.range (zNf 2), u_lay (zCn 2) (zT 2) q ∈ lw_tbl := z_places (u_lay (zCn 2) (zT 2)) _ lw_tbl [209, 211, 213, 215, 217] (by decide +kernel)
set_option maxRecDepth 100000 in
theorem z_lay_3 : ∀ q ∈ List.range (zNf 3), u_lay (zCn 3) (zT 3) q ∈ lw_tbl := z_places (u_lay (zCn 3) (zT 3)) _ lw_tbl [395, 397, 399, 401] (by decide +kernel)
set_option maxRecDepth 100000 in
theorem z_lay_4 : ∀ q ∈ List.range (zNf 4), u_lay (zCn 4) (zT 4) q ∈ lw_tbl := z_places (u_lay (zCn 4) (zT 4)) _ lw_tbl [237, 239, 241, 243] (by decide +kernel)
set_option maxRecDepth 100000 in
theorem z_lay_5 : ∀ q ∈ List.range (zNf 5), u_lay (zCn 5) (zT 5) q ∈ lw_tbl := z_places (u_lay (zCn 5) (zT 5)) _ lw_tbl [372, 374, 376, 378, 380, 382] (by decide +kernel)
set_option maxRecDepth 100000 in
theorem z_lay_6 : ∀ q ∈ List.range (zNf 6), u_lay (zCn 6) (zT 6) q ∈ lw_tbl := z_places (u_lay (zCn 6) (zT 6)) _ lw_tbl [337, 339, 341, 343, 345, 347, 349, 351] (by decide +kernel)
set_option maxRecDepth 100000 in
theorem z_lay_7 : ∀ q ∈ List.range (zNf 7), u_lay (zCn 7) (zT 7) q ∈ lw_tbl := z_places (u_lay (zCn 7) (zT 7)) _ lw_tbl [284, 286, 288, 290, 292, 294, 296, 298, 300] (by decide +kernel)
set_option maxRecDepth 100000 in
theorem z_lay_8 : ∀ q ∈ List.range (zNf 8), u_lay (zCn 8) (zT 8) q ∈ lw_tbl := z_places (u_lay (zCn 8) (zT 8)) _ lw_tbl [418, 420, 422, 424, 426, 428] (by decide +kernel)
set_option maxRecDepth 100000 in
theorem z_lay_9 : ∀ q ∈ List.range (zNf 9), u_lay (zCn 9) (zT 9) q ∈ lw_tbl := z_places (u_lay (zCn 9) (zT 9)) _ lw_tbl [152, 154] (by decide +kernel)
set_option maxRecDepth 100000 in
theorem z_lay_10 : ∀ q ∈ List.range (zNf 10), u_lay (zCn 10) (zT 10) q ∈ lw_tbl := z_places (u_lay (zCn 10) (zT 10)) _ lw_tbl [442, 444, 446, 448] (by decide +kernel)
set_option maxRecDepth 100000 in
theorem z_lay_11 : ∀ q ∈ List.range (zNf 11), u_lay (zCn 11) (zT 11) q ∈ lw_tbl := z_places (u_lay (zCn 11) (zT 11)) _ lw_tbl [508, 510, 512, 514, 516, 518, 520, 522, 524, 526, 528, 530, 532, 534, 536, 538] (by decide +kernel)
set_option maxRecDepth 100000 in
theorem z_lay_12 : ∀ q ∈ List.range (zNf 12), u_lay (zCn 12) (zT 12) q ∈ lw_tbl := z_places (u_lay (zCn 12) (zT 12)) _ lw_tbl [1259, 1261, 1263, 1265, 1267, 1269, 1271, 1273, 1275, 1277, 1279, 1281, 1283, 1285, 1287, 1289, 1291, 1293, 1295, 1297, 1299, 1301, 1303, 1305, 1307, 1309, 1311, 1313, 1315, 1317, 1319, 1321, 1323, 1325, 1327, 1329, 1331, 1333, 1335, 1337, 1339, 1341, 1343, 1345, 1347, 1349, 1351, 1353, 1355, 1357, 1359, 1361, 1363, 1365, 1367, 1369, 1371, 1373, 1375, 1377, 1379, 1381, 1383, 1385, 1387, 1389, 1391, 1393, 1395, 1397, 1399, 1401, 1403, 1405, 1407, 1409, 1411] (by decide +kernel)
theorem z_lay {c : Nat} (h : c < 13) : ∀ w ∈ u_ws (zCn c) (zT c) (zNf c), w ∈ lw_tbl := by
  intro w hw
  obtain ⟨k, hk, rfl⟩ := List.mem_map.mp hw
  match c, h with
  | 0, _ => exact z_lay_0 k hk
  | 1, _ => exact z_lay_1 k hk
  | 2, _ => exact z_lay_2 k hk
  | 3, _ => exact z_lay_3 k hk
  | 4, _ => exact z_lay_4 k hk
  | 5, _ => exact z_lay_5 k hk
  | 6, _ => exact z_lay_6 k hk
  | 7, _ => exact z_lay_7 k hk
  | 8, _ => exact z_lay_8 k hk
  | 9, _ => exact z_lay_9 k hk
  | 10, _ => exact z_lay_10 k hk
  | 11, _ => exact z_lay_11 k hk
  | 12, _ => exact z_lay_12 k hk
  | n + 13, h => exact absurd h (by omega)
def zTbl : List Cond := lw_tbl.filter goodWord
theorem z_in {w : Cond} (h : w ∈ lw_tbl) (hg : goodWord w = true) : w ∈ zTbl := List.mem_filter.mpr ⟨h, hg⟩
theorem z_goodIn : GoodIn zTbl zTbl := fun w h => ⟨h, good_of_word (List.mem_filter.mp h).2⟩
theorem z_nm_0 : ∀ a, a < zNf 0 → ∀ b, b < zNf 0 → a ≠ b → (zT 0 a).2.1 ≠ (zT 0 b).2.1 := nmX0
theorem z_nm_1 : ∀ a, a < zNf 1 → ∀ b, b < zNf 1 → a ≠ b → (zT 1 a).2.1 ≠ (zT 1 b).2.1 := nmX1
theorem z_nm_2 : ∀ a, a < zNf 2 → ∀ b, b < zNf 2 → a ≠ b → (zT 2 a).2.1 ≠ (zT 2 b).2.1 := nmX2
theorem z_nm_3 : ∀ a, a < zNf 3 → ∀ b, b < zNf 3 → a ≠ b → (zT 3 a).2.1 ≠ (zT 3 b).2.1 := nmX3
theorem z_nm_4 : ∀ a, a < zNf 4 → ∀ b, b < zNf 4 → a ≠ b → (zT 4 a).2.1 ≠ (zT 4 b).2.1 := nmX4
theorem z_nm_5 : ∀ a, a < zNf 5 → ∀ b, b < zNf 5 → a ≠ b → (zT 5 a).2.1 ≠ (zT 5 b).2.1 := nmX5
theorem z_nm_6 : ∀ a, a < zNf 6 → ∀ b, b < zNf 6 → a ≠ b → (zT 6 a).2.1 ≠ (zT 6 b).2.1 := nmX6
theorem z_nm_7 : ∀ a, a < zNf 7 → ∀ b, b < zNf 7 → a ≠ b → (zT 7 a).2.1 ≠ (zT 7 b).2.1 := nmX7
theorem z_nm_8 : ∀ a, a < zNf 8 → ∀ b, b < zNf 8 → a ≠ b → (zT 8 a).2.1 ≠ (zT 8 b).2.1 := nmX8
theorem z_nm_9 : ∀ a, a < zNf 9 → ∀ b, b < zNf 9 → a ≠ b → (zT 9 a).2.1 ≠ (zT 9 b).2.1 := nmX9
theorem z_nm_10 : ∀ a, a < zNf 10 → ∀ b, b < zNf 10 → a ≠ b → (zT 10 a).2.1 ≠ (zT 10 b).2.1 := nmX10
theorem z_nm_11 : ∀ a, a < zNf 11 → ∀ b, b < zNf 11 → a ≠ b → (zT 11 a).2.1 ≠ (zT 11 b).2.1 := nmX11
theorem z_nm_12 : ∀ a, a < zNf 12 → ∀ b, b < zNf 12 → a ≠ b → (zT 12 a).2.1 ≠ (zT 12 b).2.1 := nmX12
theorem z_nm {c : Nat} (h : c < 13) : ∀ a, a < zNf c → ∀ b, b < zNf c → a ≠ b → (zT c a).2.1 ≠ (zT c b).2.1 := by
  match c, h with
  | 0, _ => exact nmX0
  | 1, _ => exact nmX1
  | 2, _ => exact nmX2
  | 3, _ => exact nmX3
  | 4, _ => exact nmX4
  | 5, _ => exact nmX5
  | 6, _ => exact nmX6
  | 7, _ => exact nmX7
  | 8, _ => exact nmX8
  | 9, _ => exact nmX9
  | 10, _ => exact nmX10
  | 11, _ => exact nmX11
  | 12, _ => exact nmX12
  | n + 13, h => exact absurd h (by omega)
theorem z_ty {c : Nat} (h : c < 13) : ∀ k, k < zNf c → parseFieldDescriptor (zT c k).2.2.1 = some (zTy c k) := by
  match c, h with
  | 0, _ => exact tyX0_ok
  | 1, _ => exact tyX1_ok
  | 2, _ => exact tyX2_ok
  | 3, _ => exact tyX3_ok
  | 4, _ => exact tyX4_ok
  | 5, _ => exact tyX5_ok
  | 6, _ => exact tyX6_ok
  | 7, _ => exact tyX7_ok
  | 8, _ => exact tyX8_ok
  | 9, _ => exact tyX9_ok
  | 10, _ => exact tyX10_ok
  | 11, _ => exact tyX11_ok
  | 12, _ => exact tyX12_ok
  | n + 13, h => exact absurd h (by omega)
theorem z_cl {c : Nat} (h : c < 13) : vwCl[c]? = some (zCn c, zT c, zNf c) := by
  match c, h with
  | 0, _ => rfl
  | 1, _ => rfl
  | 2, _ => rfl
  | 3, _ => rfl
  | 4, _ => rfl
  | 5, _ => rfl
  | 6, _ => rfl
  | 7, _ => rfl
  | 8, _ => rfl
  | 9, _ => rfl
  | 10, _ => rfl
  | 11, _ => rfl
  | 12, _ => rfl
  | n + 13, h => exact absurd h (by omega)
def zYk (m : Nat) : Bool := plainName (zY m).cls && decide ((zY m).cls = zCn (zO m)) && decide ((zY m).cls ≠ "java/lang/invoke/MethodHandle") && decide ((zY m).cls ≠ "java/lang/invoke/VarHandle") && decide ((parseMethodDescriptor (zY m).desc).map (fun d => d.parameters.length) = some (zA m))
theorem z_y : (List.range zNm).all zYk = true := by decide +kernel
theorem z_init2 : zMl.all (fun q => !(q.2.2.1 == 2 || q.2.2.1 == 3) || decide ((zY q.2.2.2).name = "<init>" ∧ zRt q.2.2.2 = none)) = true := by decide +kernel
theorem z_midlt : zMl.all (fun q => decide (q.2.2.2 < zNm) && !(q.2.2.2 == zNl)) = true := by decide +kernel
