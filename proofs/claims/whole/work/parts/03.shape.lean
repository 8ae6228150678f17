/-! the cells of the world: numbers 0 to 81; 0: VowOfOneWord; 1, 8, 15: its rocks now, kept, trial; 22: its sayings; 31: house, 32 its guesses; 43: told; 44: tape; 46: shelves; 48 + 2 s: shelf s; 64: the model -/
def xclL : List Nat := [6, 1, 99, 99, 99, 99, 99, 99, 1, 99, 99, 99, 99, 99, 99, 1, 99, 99, 99, 99, 99, 99, 2, 99, 99, 99, 99, 99, 99, 99, 99, 0, 2, 99, 99, 99, 99, 99, 99, 99, 99, 99, 99, 5, 4, 99, 99, 99, 3, 99, 3, 99, 3, 99, 3, 99, 3, 99, 3, 99, 3, 99, 3, 99, 7, 99, 99, 99, 99, 99, 99, 99, 99, 99, 99, 99, 99, 99, 99, 99, 99, 99]
def xakL : List Nat := [0, 0, 1, 1, 1, 1, 1, 1, 0, 1, 1, 1, 1, 1, 1, 0, 1, 1, 1, 1, 1, 1, 0, 2, 0, 0, 0, 0, 1, 1, 2, 0, 0, 2, 0, 0, 0, 0, 1, 1, 2, 1, 1, 0, 0, 1, 4, 1, 0, 2, 0, 2, 0, 2, 0, 2, 0, 2, 0, 2, 0, 2, 0, 2, 0, 1, 1, 1, 1, 1, 3, 1, 1, 1, 1, 2, 1, 1, 1, 1, 1, 3]
def xalL : List Nat := [0, 0, 16, 16, 16, 16, 16, 8, 0, 16, 16, 16, 16, 16, 8, 0, 16, 16, 16, 16, 16, 8, 0, 2400, 0, 0, 0, 0, 7, 10, 32, 0, 0, 700, 0, 0, 0, 0, 7, 10, 32, 10, 100, 0, 0, 250, 8, 5, 0, 40, 0, 40, 0, 40, 0, 40, 0, 40, 0, 40, 0, 40, 0, 40, 0, 11, 11, 11, 11, 11, 11, 8, 250, 8, 8, 320, 7, 72, 72, 10, 11, 2001]
def xrfL : List (List Nat) := [[1, 8, 15, 0, 22, 31, 43, 44, 46, 47], [0, 0, 2, 3, 4, 5, 6, 0, 7, 0, 0], [], [], [], [], [], [], [0, 0, 9, 10, 11, 12, 13, 0, 14, 0, 0], [], [], [], [], [], [], [0, 0, 16, 17, 18, 19, 20, 0, 21, 0, 0], [], [], [], [], [], [], [0, 0, 0, 23, 28, 29, 30], [], [], [], [], [], [], [], [], [0, 0, 32, 41, 42], [0, 0, 0, 33, 38, 39, 40], [], [], [], [], [], [], [], [], [], [], [0, 0], [45, 0, 0, 0, 0, 0], [], [48, 50, 52, 54, 56, 58, 60, 62], [], [0, 0, 49], [], [0, 0, 51], [], [0, 0, 53], [], [0, 0, 55], [], [0, 0, 57], [], [0, 0, 59], [], [0, 0, 61], [], [0, 0, 63], [], [0, 65, 66, 67, 68, 69, 70, 0, 71, 0, 0, 0, 72, 0, 0, 0, 0, 73, 74, 75, 76, 0, 77, 78, 0, 0, 0, 0, 0, 0, 79, 80, 81], [], [], [], [], [], [], [], [], [], [], [], [], [], [], [], [], []]
def xftL : List (List Nat) := [[0, 0, 2, 2, 2], [0, 0, 2, 2, 2, 2, 2, 0, 2, 0, 0], [0, 0, 0, 2, 2, 2, 2], [0, 0, 2], [2, 0, 0, 0, 0, 0], [1, 0], [2, 2, 2, 3, 2, 2, 2, 2, 2, 2], [0, 2, 2, 2, 2, 2, 2, 0, 2, 0, 0, 0, 2, 0, 0, 0, 0, 2, 2, 2, 2, 3, 2, 2, 0, 0, 3, 0, 0, 0, 2, 2, 2]]
def xgl {α : Type} : List α → Nat → α → α
  | [], _, d => d
  | a :: _, 0, _ => a
  | _ :: l, n + 1, d => xgl l n d
def xN : Nat := 82
def xcl (i : Nat) : Nat := xgl xclL i 99
/-- kinds of arrays: 1 int, 2 long, 3 boolean, 4 references; 5, 6: int and byte arrays that nobody writes (200: NEXT, 201: WANTS, 202: the script, 230 on: the bytes of the words) -/
def xak (i : Nat) : Nat := bif Nat.ble 200 i then (bif Nat.ble 230 i then (bif Nat.ble i 236 then 6 else 0) else bif Nat.ble i 202 then 5 else 0) else xgl xakL i 0
def xal (i : Nat) : Nat := bif Nat.ble 200 i then xgl ([42, 7] ++ List.replicate 28 0 ++ [7, 4, 5, 4, 4, 3, 4]) (i - 200) 0 else xgl xalL i 0
def xrf (c k : Nat) : Nat := xgl (xgl xrfL c []) k 0
def xft (ci k : Nat) : Nat := xgl (xgl xftL ci []) k 9
/-! the good words of the tables -/
def XB : List Cond := lw_tbl.filter goodWord
theorem xb_mem {w : Cond} (i : Nat) (h : lw_tbl[i]? = some w) (hg : goodWord w = true) : w ∈ XB := List.mem_filter.mpr ⟨List.mem_of_getElem? h, hg⟩
theorem xb_m0 {w : Cond} (i : Nat) (h : (k2_sels lw_privs)[i]? = some w) (hg : goodWord w = true) : w ∈ XB := List.mem_filter.mpr ⟨List.mem_append_left _ (List.mem_of_getElem? h), hg⟩
theorem xb_m1 {w : Cond} (i : Nat) (h : (tables_1_1)[i]? = some w) (hg : goodWord w = true) : w ∈ XB := List.mem_filter.mpr ⟨List.mem_append_right _ (List.mem_append_left _ (List.mem_of_getElem? h)), hg⟩
theorem xb_m2 {w : Cond} (i : Nat) (h : (tables_1_2)[i]? = some w) (hg : goodWord w = true) : w ∈ XB := List.mem_filter.mpr ⟨List.mem_append_right _ (List.mem_append_right _ (List.mem_append_left _ (List.mem_of_getElem? h))), hg⟩
theorem xb_m3 {w : Cond} (i : Nat) (h : (tables_1_3)[i]? = some w) (hg : goodWord w = true) : w ∈ XB := List.mem_filter.mpr ⟨List.mem_append_right _ (List.mem_append_right _ (List.mem_append_right _ (List.mem_append_left _ (List.mem_of_getElem? h)))), hg⟩
theorem xb_m4 {w : Cond} (i : Nat) (h : (tables_1_4)[i]? = some w) (hg : goodWord w = true) : w ∈ XB := List.mem_filter.mpr ⟨List.mem_append_right _ (List.mem_append_right _ (List.mem_append_right _ (List.mem_append_right _ (List.mem_append_left _ (List.mem_of_getElem? h))))), hg⟩
theorem xb_m5 {w : Cond} (i : Nat) (h : (tables_1_5)[i]? = some w) (hg : goodWord w = true) : w ∈ XB := List.mem_filter.mpr ⟨List.mem_append_right _ (List.mem_append_right _ (List.mem_append_right _ (List.mem_append_right _ (List.mem_append_right _ (List.mem_append_left _ (List.mem_of_getElem? h)))))), hg⟩
theorem xb_m6 {w : Cond} (i : Nat) (h : (tables_1_6)[i]? = some w) (hg : goodWord w = true) : w ∈ XB := List.mem_filter.mpr ⟨List.mem_append_right _ (List.mem_append_right _ (List.mem_append_right _ (List.mem_append_right _ (List.mem_append_right _ (List.mem_append_right _ (List.mem_append_left _ (List.mem_of_getElem? h))))))), hg⟩
theorem xb_m7 {w : Cond} (i : Nat) (h : (tables_1_7)[i]? = some w) (hg : goodWord w = true) : w ∈ XB := List.mem_filter.mpr ⟨List.mem_append_right _ (List.mem_append_right _ (List.mem_append_right _ (List.mem_append_right _ (List.mem_append_right _ (List.mem_append_right _ (List.mem_append_right _ (List.mem_of_getElem? h))))))), hg⟩
theorem xb_good : GoodIn lw_tbl XB := fun w h => ⟨(List.mem_filter.mp h).1, good_of_word (List.mem_filter.mp h).2⟩
theorem xb_list (ws : List Cond) (ps : List Nat) (hp : ws = ps.filterMap (fun i => lw_tbl[i]?)) (h : ws.all goodWord = true) : ∀ w ∈ ws, w ∈ XB := fun w hw => by
  obtain ⟨h1, h2⟩ := goodIn_r (big := lw_tbl) ws ps hp h w hw
  exact List.mem_filter.mpr ⟨h1, List.all_eq_true.mp h w hw⟩
set_option maxRecDepth 20000 in
theorem xinX1 : ∀ w ∈ wsX10, w ∈ XB := xb_list _ [211, 213, 215, 217, 219] (by decide +kernel) (by decide +kernel)
set_option maxRecDepth 20000 in
theorem xinX3 : ∀ w ∈ wsX30, w ∈ XB := xb_list _ [140, 142, 144, 146, 148, 150, 152, 154, 156, 158, 160] (by decide +kernel) (by decide +kernel)
set_option maxRecDepth 20000 in
theorem xinX4 : ∀ w ∈ wsX40, w ∈ XB := xb_list _ [180, 182, 184, 186, 188, 190, 192] (by decide +kernel) (by decide +kernel)
set_option maxRecDepth 20000 in
theorem xinX5 : ∀ w ∈ wsX50, w ∈ XB := xb_list _ [278, 280, 282] (by decide +kernel) (by decide +kernel)
set_option maxRecDepth 20000 in
theorem xinX6 : ∀ w ∈ wsX60, w ∈ XB := xb_list _ [251, 253, 255, 257, 259, 261] (by decide +kernel) (by decide +kernel)
set_option maxRecDepth 20000 in
theorem xinX7 : ∀ w ∈ wsX70, w ∈ XB := xb_list _ [232, 234] (by decide +kernel) (by decide +kernel)
set_option maxRecDepth 20000 in
theorem xinX8 : ∀ w ∈ wsX80, w ∈ XB := xb_list _ [295, 297, 299, 301, 303, 305, 307, 309, 311, 313] (by decide +kernel) (by decide +kernel)
set_option maxRecDepth 20000 in
theorem xinX9 : ∀ w ∈ wsX90, w ∈ XB := xb_list _ [1109, 1111, 1113, 1115, 1117, 1119, 1121, 1123, 1125, 1127, 1129, 1131, 1133, 1135, 1137, 1139, 1141, 1143, 1145, 1147, 1149, 1151, 1153, 1155, 1157, 1159, 1161, 1163, 1165, 1167, 1169, 1171, 1173] (by decide +kernel) (by decide +kernel)
