def noPut (e : Instr) : Bool := match e with
  | .putfield _ => false
  | _ => true
def lawI (nm : String) : sI := (⟨RL, nm, "([I)Z"⟩, code, 7, some .boolean, mL_law, [])
theorem kL_put : mL_law.2.2.1.all (fun e => noPut e.2.1) = true := by decide +kernel
set_option maxRecDepth 20000 in
theorem kL_0 : chkL infA RL "law" code 4 ((mL_law.2.2.1.drop 0).take 40) [[114, 115, 94], [], [116, 117, 0], [], [1147, 1141, 102], [], [1148, 1149, 0], [], [], [198], [], [], [], [], [], [], [], [], [], [], [], [], [], [], [], [], [], [], [], [], [], [], [], [], [], [], [], [], [], []] = true := by decide +kernel
set_option maxRecDepth 20000 in
theorem kL_1 : chkL infA RL "law" code 4 ((mL_law.2.2.1.drop 40).take 40) [[], [], [], [], [], [], [], [], [], [], [], [372, 373, 374], [], [], [], [], [], [], [], [], [], [], [], [], [], [], [], [], [], [], [], [], [], [], [], [], [], [], [1134, 1135, 1136], []] = true := by decide +kernel
set_option maxRecDepth 20000 in
theorem kL_2 : chkL infA RL "law" code 4 ((mL_law.2.2.1.drop 80).take 40) [[], [], [], [], [], [], [], [], [380, 381, 382], [], [], [], [], [], [], [1143, 1144, 1145], [], [], [], [], [384, 385, 386], [], [1270, 1271, 1272], [], [], [], [], [527, 528, 529], [], [1382, 1383, 1384], [], [], [], [], [], [], [], [], [], [531, 532, 533]] = true := by decide +kernel
set_option maxRecDepth 20000 in
theorem kL_3 : chkL infA RL "law" code 4 ((mL_law.2.2.1.drop 120).take 40) [[], [], [], [], [], [], [1386, 1387, 1388], [], [], [], [], [], [], [], [], [], [], [], [], [], [], [539, 540, 541], [], [], [], [], [], [], [], [], [], [], [], [1394, 1395, 1396], [], [], [], [], [], []] = true := by decide +kernel
set_option maxRecDepth 20000 in
theorem kL_4 : chkL infA RL "law" code 4 ((mL_law.2.2.1.drop 160).take 40) [[], [], [], [], [], [], [], [], [], [], [], [], [], [547, 548, 549], [], [], [], [], [], [], [], [], [], [], [], [], [], [], [], [], [1406, 1407, 1408], [], [], [], [], [], [], [], [], []] = true := by decide +kernel
set_option maxRecDepth 20000 in
theorem kL_5 : chkL infA RL "law" code 4 ((mL_law.2.2.1.drop 200).take 40) [[], [], [], [], [], [], [], [], [], [], [563, 564, 565], [], [], [], [], [], [], [], [], [], [], [], [], [], [], [], [], [1418, 1419, 1420], [], [], [], [], [], [], [], [], [], [], [], []] = true := by decide +kernel
set_option maxRecDepth 20000 in
theorem kL_6 : chkL infA RL "law" code 4 ((mL_law.2.2.1.drop 240).take 40) [[], [], [], [], [], [], [], [571, 572, 573], [], [], [], [], [], [], [], [], [], [], [], [], [], [], [], [], [1422, 1423, 1424], [], [], [], [], [], [], [], [], [], [579, 580, 581], [], [], [], [], []] = true := by decide +kernel
set_option maxRecDepth 20000 in
theorem kL_7 : chkL infA RL "law" code 4 ((mL_law.2.2.1.drop 280).take 40) [[], [1426, 1427, 1428], [], [], [], [], [], [], [], [], [], [], [], [], [], [], [587, 588, 589], [], [], [], [], [], [], [], [], [], [], [], [1434, 1435, 1436], [], [], [], [], [], [], [], [], [], [], []] = true := by decide +kernel
