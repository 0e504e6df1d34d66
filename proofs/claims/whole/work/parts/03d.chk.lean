set_option maxRecDepth 100000 in
theorem ok169 : mc169.all (fun q => chkI 169 q.1 q.2) = true := by decide +kernel
set_option maxRecDepth 100000 in
theorem okM169 : chkM 169 = true := by decide +kernel
set_option maxRecDepth 100000 in
theorem ok170 : mc170.all (fun q => chkI 170 q.1 q.2) = true := by decide +kernel
set_option maxRecDepth 100000 in
theorem okM170 : chkM 170 = true := by decide +kernel
set_option maxRecDepth 100000 in
theorem ok171 : mc171.all (fun q => chkI 171 q.1 q.2) = true := by decide +kernel
set_option maxRecDepth 100000 in
theorem okM171 : chkM 171 = true := by decide +kernel
set_option maxRecDepth 100000 in
theorem ok172 : mc172.all (fun q => chkI 172 q.1 q.2) = true := by decide +kernel
set_option maxRecDepth 100000 in
theorem okM172 : chkM 172 = true := by decide +kernel
set_option maxRecDepth 100000 in
theorem ok173 : mc173.all (fun q => chkI 173 q.1 q.2) = true := by decide +kernel
set_option maxRecDepth 100000 in
theorem okM173 : chkM 173 = true := by decide +kernel
set_option maxRecDepth 100000 in
theorem ok174 : mc174.all (fun q => chkI 174 q.1 q.2) = true := by decide +kernel
set_option maxRecDepth 100000 in
theorem okM174 : chkM 174 = true := by decide +kernel
set_option maxRecDepth 100000 in
theorem ok175 : mc175.all (fun q => chkI 175 q.1 q.2) = true := by decide +kernel
set_option maxRecDepth 100000 in
theorem okM175 : chkM 175 = true := by decide +kernel
set_option maxRecDepth 100000 in
theorem ok176 : mc176.all (fun q => chkI 176 q.1 q.2) = true := by decide +kernel
set_option maxRecDepth 100000 in
theorem okM176 : chkM 176 = true := by decide +kernel
set_option maxRecDepth 100000 in
theorem ok177 : mc177.all (fun q => chkI 177 q.1 q.2) = true := by decide +kernel
set_option maxRecDepth 100000 in
theorem okM177 : chkM 177 = true := by decide +kernel
set_option maxRecDepth 100000 in
theorem ok178 : mc178.all (fun q => chkI 178 q.1 q.2) = true := by decide +kernel
set_option maxRecDepth 100000 in
theorem okM178 : chkM 178 = true := by decide +kernel
set_option maxRecDepth 100000 in
theorem ok179 : mc179.all (fun q => chkI 179 q.1 q.2) = true := by decide +kernel
set_option maxRecDepth 100000 in
theorem okM179 : chkM 179 = true := by decide +kernel
set_option maxRecDepth 100000 in
theorem ok180 : mc180.all (fun q => chkI 180 q.1 q.2) = true := by decide +kernel
set_option maxRecDepth 100000 in
theorem okM180 : chkM 180 = true := by decide +kernel
set_option maxRecDepth 100000 in
theorem ok181 : mc181.all (fun q => chkI 181 q.1 q.2) = true := by decide +kernel
set_option maxRecDepth 100000 in
theorem okM181 : chkM 181 = true := by decide +kernel
set_option maxRecDepth 100000 in
theorem ok182 : mc182.all (fun q => chkI 182 q.1 q.2) = true := by decide +kernel
set_option maxRecDepth 100000 in
theorem okM182 : chkM 182 = true := by decide +kernel
set_option maxRecDepth 100000 in
theorem ok183 : mc183.all (fun q => chkI 183 q.1 q.2) = true := by decide +kernel
set_option maxRecDepth 100000 in
theorem okM183 : chkM 183 = true := by decide +kernel
set_option maxRecDepth 100000 in
theorem ok184 : mc184.all (fun q => chkI 184 q.1 q.2) = true := by decide +kernel
set_option maxRecDepth 100000 in
theorem okM184 : chkM 184 = true := by decide +kernel
set_option maxRecDepth 100000 in
theorem ok185 : mc185.all (fun q => chkI 185 q.1 q.2) = true := by decide +kernel
set_option maxRecDepth 100000 in
theorem okM185 : chkM 185 = true := by decide +kernel
set_option maxRecDepth 100000 in
theorem ok186 : mc186.all (fun q => chkI 186 q.1 q.2) = true := by decide +kernel
set_option maxRecDepth 100000 in
theorem okM186 : chkM 186 = true := by decide +kernel
set_option maxRecDepth 100000 in
theorem ok187 : mc187.all (fun q => chkI 187 q.1 q.2) = true := by decide +kernel
set_option maxRecDepth 100000 in
theorem okM187 : chkM 187 = true := by decide +kernel
set_option maxRecDepth 100000 in
theorem ok188 : mc188.all (fun q => chkI 188 q.1 q.2) = true := by decide +kernel
set_option maxRecDepth 100000 in
theorem okM188 : chkM 188 = true := by decide +kernel
set_option maxRecDepth 100000 in
theorem ok189 : mc189.all (fun q => chkI 189 q.1 q.2) = true := by decide +kernel
set_option maxRecDepth 100000 in
theorem okM189 : chkM 189 = true := by decide +kernel
set_option maxRecDepth 100000 in
theorem ok190 : mc190.all (fun q => chkI 190 q.1 q.2) = true := by decide +kernel
set_option maxRecDepth 100000 in
theorem okM190 : chkM 190 = true := by decide +kernel
set_option maxRecDepth 100000 in
theorem ok191 : mc191.all (fun q => chkI 191 q.1 q.2) = true := by decide +kernel
set_option maxRecDepth 100000 in
theorem okM191 : chkM 191 = true := by decide +kernel
set_option maxRecDepth 100000 in
theorem ok192 : mc192.all (fun q => chkI 192 q.1 q.2) = true := by decide +kernel
set_option maxRecDepth 100000 in
theorem okM192 : chkM 192 = true := by decide +kernel
set_option maxRecDepth 100000 in
theorem ok193 : mc193.all (fun q => chkI 193 q.1 q.2) = true := by decide +kernel
set_option maxRecDepth 100000 in
theorem okM193 : chkM 193 = true := by decide +kernel
set_option maxRecDepth 100000 in
theorem ok194 : mc194.all (fun q => chkI 194 q.1 q.2) = true := by decide +kernel
set_option maxRecDepth 100000 in
theorem okM194 : chkM 194 = true := by decide +kernel
set_option maxRecDepth 100000 in
theorem ok195 : mc195.all (fun q => chkI 195 q.1 q.2) = true := by decide +kernel
set_option maxRecDepth 100000 in
theorem okM195 : chkM 195 = true := by decide +kernel
set_option maxRecDepth 100000 in
theorem ok196 : mc196.all (fun q => chkI 196 q.1 q.2) = true := by decide +kernel
set_option maxRecDepth 100000 in
theorem okM196 : chkM 196 = true := by decide +kernel
set_option maxRecDepth 100000 in
theorem ok197 : mc197.all (fun q => chkI 197 q.1 q.2) = true := by decide +kernel
set_option maxRecDepth 100000 in
theorem okM197 : chkM 197 = true := by decide +kernel
set_option maxRecDepth 100000 in
theorem ok198 : mc198.all (fun q => chkI 198 q.1 q.2) = true := by decide +kernel
set_option maxRecDepth 100000 in
theorem okM198 : chkM 198 = true := by decide +kernel
set_option maxRecDepth 100000 in
theorem ok199 : mc199.all (fun q => chkI 199 q.1 q.2) = true := by decide +kernel
set_option maxRecDepth 100000 in
theorem okM199 : chkM 199 = true := by decide +kernel
set_option maxRecDepth 100000 in
theorem ok200 : mc200.all (fun q => chkI 200 q.1 q.2) = true := by decide +kernel
set_option maxRecDepth 100000 in
theorem okM200 : chkM 200 = true := by decide +kernel
set_option maxRecDepth 100000 in
theorem ok201 : mc201.all (fun q => chkI 201 q.1 q.2) = true := by decide +kernel
set_option maxRecDepth 100000 in
theorem okM201 : chkM 201 = true := by decide +kernel
set_option maxRecDepth 100000 in
theorem ok202 : mc202.all (fun q => chkI 202 q.1 q.2) = true := by decide +kernel
set_option maxRecDepth 100000 in
theorem okM202 : chkM 202 = true := by decide +kernel
set_option maxRecDepth 100000 in
theorem ok203 : mc203.all (fun q => chkI 203 q.1 q.2) = true := by decide +kernel
set_option maxRecDepth 100000 in
theorem okM203 : chkM 203 = true := by decide +kernel
set_option maxRecDepth 100000 in
theorem ok204 : mc204.all (fun q => chkI 204 q.1 q.2) = true := by decide +kernel
set_option maxRecDepth 100000 in
theorem okM204 : chkM 204 = true := by decide +kernel
set_option maxRecDepth 100000 in
theorem ok205 : mc205.all (fun q => chkI 205 q.1 q.2) = true := by decide +kernel
set_option maxRecDepth 100000 in
theorem okM205 : chkM 205 = true := by decide +kernel
set_option maxRecDepth 100000 in
theorem ok206 : mc206.all (fun q => chkI 206 q.1 q.2) = true := by decide +kernel
set_option maxRecDepth 100000 in
theorem okM206 : chkM 206 = true := by decide +kernel
set_option maxRecDepth 100000 in
theorem ok207 : mc207.all (fun q => chkI 207 q.1 q.2) = true := by decide +kernel
set_option maxRecDepth 100000 in
theorem okM207 : chkM 207 = true := by decide +kernel
set_option maxRecDepth 100000 in
theorem ok208 : mc208.all (fun q => chkI 208 q.1 q.2) = true := by decide +kernel
set_option maxRecDepth 100000 in
theorem okM208 : chkM 208 = true := by decide +kernel
set_option maxRecDepth 100000 in
theorem ok209 : mc209.all (fun q => chkI 209 q.1 q.2) = true := by decide +kernel
set_option maxRecDepth 100000 in
theorem okM209 : chkM 209 = true := by decide +kernel
set_option maxRecDepth 100000 in
theorem ok210 : mc210.all (fun q => chkI 210 q.1 q.2) = true := by decide +kernel
set_option maxRecDepth 100000 in
theorem okM210 : chkM 210 = true := by decide +kernel
set_option maxRecDepth 100000 in
theorem ok211 : mc211.all (fun q => chkI 211 q.1 q.2) = true := by decide +kernel
set_option maxRecDepth 100000 in
theorem okM211 : chkM 211 = true := by decide +kernel
set_option maxRecDepth 100000 in
theorem ok212 : mc212.all (fun q => chkI 212 q.1 q.2) = true := by decide +kernel
set_option maxRecDepth 100000 in
theorem okM212 : chkM 212 = true := by decide +kernel
set_option maxRecDepth 100000 in
theorem ok213 : mc213.all (fun q => chkI 213 q.1 q.2) = true := by decide +kernel
set_option maxRecDepth 100000 in
theorem okM213 : chkM 213 = true := by decide +kernel
set_option maxRecDepth 100000 in
theorem ok214 : mc214.all (fun q => chkI 214 q.1 q.2) = true := by decide +kernel
set_option maxRecDepth 100000 in
theorem okM214 : chkM 214 = true := by decide +kernel
set_option maxRecDepth 100000 in
theorem ok215 : mc215.all (fun q => chkI 215 q.1 q.2) = true := by decide +kernel
set_option maxRecDepth 100000 in
theorem okM215 : chkM 215 = true := by decide +kernel
set_option maxRecDepth 100000 in
theorem ok216 : mc216.all (fun q => chkI 216 q.1 q.2) = true := by decide +kernel
set_option maxRecDepth 100000 in
theorem okM216 : chkM 216 = true := by decide +kernel
set_option maxRecDepth 100000 in
theorem ok217 : mc217.all (fun q => chkI 217 q.1 q.2) = true := by decide +kernel
set_option maxRecDepth 100000 in
theorem okM217 : chkM 217 = true := by decide +kernel
set_option maxRecDepth 100000 in
theorem ok218 : mc218.all (fun q => chkI 218 q.1 q.2) = true := by decide +kernel
set_option maxRecDepth 100000 in
theorem okM218 : chkM 218 = true := by decide +kernel
set_option maxRecDepth 100000 in
theorem ok219 : mc219.all (fun q => chkI 219 q.1 q.2) = true := by decide +kernel
set_option maxRecDepth 100000 in
theorem okM219 : chkM 219 = true := by decide +kernel
set_option maxRecDepth 100000 in
theorem ok220 : mc220.all (fun q => chkI 220 q.1 q.2) = true := by decide +kernel
set_option maxRecDepth 100000 in
theorem okM220 : chkM 220 = true := by decide +kernel
set_option maxRecDepth 100000 in
theorem ok221 : mc221.all (fun q => chkI 221 q.1 q.2) = true := by decide +kernel
set_option maxRecDepth 100000 in
theorem okM221 : chkM 221 = true := by decide +kernel
set_option maxRecDepth 100000 in
theorem ok222 : mc222.all (fun q => chkI 222 q.1 q.2) = true := by decide +kernel
set_option maxRecDepth 100000 in
theorem okM222 : chkM 222 = true := by decide +kernel
set_option maxRecDepth 100000 in
theorem ok223 : mc223.all (fun q => chkI 223 q.1 q.2) = true := by decide +kernel
set_option maxRecDepth 100000 in
theorem okM223 : chkM 223 = true := by decide +kernel
set_option maxRecDepth 100000 in
theorem ok224 : mc224.all (fun q => chkI 224 q.1 q.2) = true := by decide +kernel
set_option maxRecDepth 100000 in
theorem okM224 : chkM 224 = true := by decide +kernel
set_option maxRecDepth 100000 in
theorem ok225 : mc225.all (fun q => chkI 225 q.1 q.2) = true := by decide +kernel
set_option maxRecDepth 100000 in
theorem okM225 : chkM 225 = true := by decide +kernel
set_option maxRecDepth 100000 in
theorem ok226 : mc226.all (fun q => chkI 226 q.1 q.2) = true := by decide +kernel
set_option maxRecDepth 100000 in
theorem okM226 : chkM 226 = true := by decide +kernel
set_option maxRecDepth 100000 in
theorem ok227 : mc227.all (fun q => chkI 227 q.1 q.2) = true := by decide +kernel
set_option maxRecDepth 100000 in
theorem okM227 : chkM 227 = true := by decide +kernel
set_option maxRecDepth 100000 in
theorem ok228 : mc228.all (fun q => chkI 228 q.1 q.2) = true := by decide +kernel
set_option maxRecDepth 100000 in
theorem okM228 : chkM 228 = true := by decide +kernel
set_option maxRecDepth 100000 in
theorem ok229 : mc229.all (fun q => chkI 229 q.1 q.2) = true := by decide +kernel
set_option maxRecDepth 100000 in
theorem okM229 : chkM 229 = true := by decide +kernel
set_option maxRecDepth 100000 in
theorem ok230 : mc230.all (fun q => chkI 230 q.1 q.2) = true := by decide +kernel
set_option maxRecDepth 100000 in
theorem okM230 : chkM 230 = true := by decide +kernel
set_option maxRecDepth 100000 in
theorem ok231 : mc231.all (fun q => chkI 231 q.1 q.2) = true := by decide +kernel
set_option maxRecDepth 100000 in
theorem okM231 : chkM 231 = true := by decide +kernel
set_option maxRecDepth 100000 in
theorem ok232 : mc232.all (fun q => chkI 232 q.1 q.2) = true := by decide +kernel
set_option maxRecDepth 100000 in
theorem okM232 : chkM 232 = true := by decide +kernel
set_option maxRecDepth 100000 in
theorem ok233 : mc233.all (fun q => chkI 233 q.1 q.2) = true := by decide +kernel
set_option maxRecDepth 100000 in
theorem okM233 : chkM 233 = true := by decide +kernel
set_option maxRecDepth 100000 in
theorem ok234 : mc234.all (fun q => chkI 234 q.1 q.2) = true := by decide +kernel
set_option maxRecDepth 100000 in
theorem okM234 : chkM 234 = true := by decide +kernel
