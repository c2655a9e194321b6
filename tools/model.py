# A second model of the document, plain and slow, to compare the class with (see fuzz.py). Not used by .ci/run.
from math import isqrt
from copy import deepcopy
from itertools import permutations
PR={20:10**10}
for t in range(21,41): PR[t]=PR[t-1]*11//10
for t in range(19,-1,-1): PR[t]=PR[t+1]*10//11
R=[isqrt(PR[t]) for t in range(41)]
def cd(a,b): return -(-a//b)
def dv(a,b,up): return cd(a,b) if up else a//b
def FIRST(l,a,b,up):
    a,b=min(a,b),max(a,b)
    return dv(l*100000*(b-a),a*b,up)
def SECOND(l,a,b,up):
    a,b=min(a,b),max(a,b)
    return dv(l*(b-a),100000,up)
class Fault(Exception): pass
class Fail(Exception): pass
class Pool: pass
class Stake: pass
class M: pass
class Rd:
    def __init__(s,b): s.b=b; s.i=0
    def blanks(s):
        while s.i<len(s.b) and s.b[s.i]==32: s.i+=1
    def fault(s,pl,k): raise Fault(1+8*pl+k)
    def cur(s):
        s.blanks()
        return s.b[s.i] if s.i<len(s.b) else None
    def word(s,ok):
        s.blanks(); st=s.i; w=''
        while s.i<len(s.b) and 97<=s.b[s.i]<=122: w+=chr(s.b[s.i]); s.i+=1
        if w not in ok: s.fault(st,0)
        return w,st
    def num(s,lo,hi,ne=None):
        s.blanks(); st=s.i; w=''
        while s.i<len(s.b) and 48<=s.b[s.i]<=57: w+=chr(s.b[s.i]); s.i+=1
        if not w: s.fault(st,0)
        if len(w)>7 or not lo<=int(w)<=hi or int(w)==ne: s.fault(st,1)
        return int(w)
def parse_market(b):
    r=Rd(b); m=None; n=0
    while True:
        w,st=r.word(('market','pool','purse')); n+=1
        if n>30 or (w=='market' and m) or (w!='market' and not m) or (w=='pool' and len(m.pools)==5): r.fault(st,2)
        if w=='market':
            m=M(); m.things=r.num(2,5); m.people=r.num(1,4); m.pools=[]; m.stakes=[]; m.time=0; m.crossed=0
            m.purse=[[0]*m.things for _ in range(m.people)]; m.hist=[]
        elif w=='pool':
            p=Pool(); p.t=[r.num(0,m.things-1)]; p.t.append(r.num(0,m.things-1,p.t[0]))
            p.fee=r.num(0,99); p.cut=r.num(0,100); p.sp=r.num(1,10); a=r.num(1,9999); bb=r.num(1,9999)
            p.root=min(max(isqrt(10**10*a//bb),R[0]),R[40]); p.zone=max(z for z in range(40) if R[z]<=p.root)
            p.held=[0,0]; p.house=[0,0]; p.marks=[0]; p.zs=[]  # zone at every second
            m.pools.append(p)
        else:
            a=r.num(0,m.people-1); t=r.num(0,m.things-1); m.purse[a][t]=r.num(0,9999999)
        c=r.cur()
        if c is None: return m
        if c!=59: r.fault(r.i,0)
        r.i+=1
def liq(m,pi,z): return sum(s.L for s in m.stakes if s.pool==pi and s.low<=z<s.high)
def lies(m,s,l,up):
    p=m.pools[s.pool]
    if p.zone<s.low: return [FIRST(l,R[s.low],R[s.high],up),0]
    if p.zone>=s.high: return [0,SECOND(l,R[s.low],R[s.high],up)]
    return [FIRST(l,p.root,R[s.high],up),SECOND(l,R[s.low],p.root,up)]
def owed(s,i): return s.debt[i]+s.L*s.gain[i]//1048576
def settle(s): s.debt=[owed(s,0),owed(s,1)]; s.gain=[0,0]
def take(m,s,l):
    settle(s); p=m.pools[s.pool]; w=lies(m,s,l,False); s.L-=l
    if s.L==0: w=[w[0]+s.debt[0],w[1]+s.debt[1]]; m.stakes.remove(s)
    for i in (0,1): p.held[i]-=w[i]; m.purse[s.person][p.t[i]]+=w[i]; assert p.held[i]>=0
def share(m,pi,i,fee,ins,l):
    p=m.pools[pi]; c=fee*p.cut//100; p.house[i]+=c
    if fee: 
        for s in ins: s.gain[i]+=(fee-c)*1048576//l
class Res: pass
def swap(m,pi,side,amount,end,kind):
    p=m.pools[pi]
    if p.marks[-1]!=m.time: p.marks=(p.marks+[m.time])[-8:]
    q=Res(); q.left=amount; q.out=0; q.inn=0; q.fees=0; q.crossed=0; atend=False; f=p.fee
    if kind=='in' and (end>p.zone if side==0 else end<=p.zone): return q
    while q.left>0 and not atend:
        es=[e for s in m.stakes if s.pool==pi for e in (s.low,s.high)]
        es=[e for e in es if (e<=p.zone if side==0 else e>p.zone)]
        aim=(max(es+[end]) if side==0 else min(es+[end]))
        l=liq(m,pi,p.zone); ins=[s for s in m.stakes if s.pool==pi and s.low<=p.zone<s.high]
        A,B=(FIRST,SECOND) if side==0 else (SECOND,FIRST)
        r0=p.root
        if kind=='in':
            wanted=A(l,r0,R[aim],True); n=q.left*(1000-f)//1000
            reached=n>=wanted
            if reached: came=wanted; fee=cd(wanted*f,1000-f); r1=R[aim]
            else:
                came=n; fee=q.left-n
                r1=cd(l*100000*r0,l*100000+n*r0) if side==0 else r0+n*100000//l
            q.left-=came+fee; o=B(l,r0,r1,False)
        else:
            served=B(l,r0,R[aim],False); reached=q.left>=served
            if reached: o=served; r1=R[aim]
            else:
                o=q.left
                r1=r0-cd(q.left*100000,l) if side==0 else cd(l*100000*r0,l*100000-q.left*r0)
            q.left-=o; came=A(l,r0,r1,True); fee=cd(came*f,1000-f)
        assert q.left>=0
        q.out+=o; q.inn+=came+fee; q.fees+=fee
        p.held[side]+=came+fee; p.held[1-side]-=o
        share(m,pi,side,fee,ins,l)
        p.root=r1
        if reached:
            if aim==end:
                atend=True; p.zone=end if side==0 else end-1
            else:
                q.crossed+=1; m.crossed+=1
                p.zone=aim-1 if side==0 else aim
                for s in list(m.stakes):
                    if s.pool==pi and ((s.auto==2 and s.low==aim) if side==0 else (s.auto==1 and s.high==aim)): take(m,s,s.L)
        else:
            z=max(z for z in range(40) if R[z]<=r1)
            p.zone=min(z,p.zone) if side==0 else min(z,aim-1)
        assert R[p.zone]<=p.root<=R[p.zone+1]
    return q
END=[0,40]
class O:
    def __init__(s): s.tape=b''; s.m=None
    def feed(s,*a):
        if len(s.tape)+20>400: return -1
        for x in a: s.tape+=(x&0xffffffff).to_bytes(4,'big')
        return len(s.tape)
    def end(s,n):
        if not 0<=n<=len(s.tape): return -1
        s.tape=s.tape[:n]; return n
    def market(s):
        b=s.tape; s.tape=b''
        try: s.m=parse_market(b)
        except Fault as e: return -2-e.args[0]
        return len(s.m.pools)
    def P(s,x): return s.m is not None and 0<=x<len(s.m.pools)
    def T(s,x): return s.m is not None and 0<=x<s.m.things
    def W(s,x): return s.m is not None and 0<=x<s.m.people
    def K(s,x): return s.m is not None and 0<=x<len(s.m.stakes)
    def root(s,t): return R[t] if 0<=t<=40 else -1
    def purse(s,a,t): return s.m.purse[a][t] if s.W(a) and s.T(t) else -1
    def pool(s,i,w):
        if not s.P(i) or not 0<=w<=13: return -1
        p=s.m.pools[i]
        if w>=12:
            c=deepcopy(s.m); h=c.pools[i].held
            for k in list(c.stakes):
                if k.pool==i: take(c,k,k.L)
            return c.pools[i].held[w-12]-p.house[w-12]
        return [p.t[0],p.t[1],p.fee,p.cut,p.sp,p.zone,p.root,liq(s.m,i,p.zone),p.held[0],p.held[1],p.house[0],p.house[1]][w]
    def depth(s,i,z): return liq(s.m,i,z) if s.P(i) and 0<=z<=39 else -1
    def stake(s,k,w):
        if not s.K(k) or not 0<=w<=10: return -1
        x=s.m.stakes[k]; a=lies(s.m,x,x.L,False)
        return [x.person,x.pool,x.low,x.high,x.auto,x.L,a[0],a[1],owed(x,0),owed(x,1),int(x.low<=s.m.pools[x.pool].zone<x.high)][w]
    def add(s,a,i,lo,hi,au,l):
        if not (s.W(a) and s.P(i) and 0<=lo<hi<=40 and 0<=au<=2 and 1<=l<=99999): return -1
        p=s.m.pools[i]
        if lo%p.sp or hi%p.sp: return -1
        ks=[k for k,x in enumerate(s.m.stakes) if (x.person,x.pool,x.low,x.high,x.auto)==(a,i,lo,hi,au)]
        if ks: x=s.m.stakes[ks[0]]; k=ks[0]
        else:
            if len(s.m.stakes)==12: return -1
            x=Stake(); x.person,x.pool,x.low,x.high,x.auto=a,i,lo,hi,au; x.L=0; x.gain=[0,0]; x.debt=[0,0]; k=len(s.m.stakes)
        if x.L+l>999999: return -1
        w=lies(s.m,x,l,True)
        if any(s.m.purse[a][p.t[j]]<w[j] for j in (0,1)): return -1
        settle(x); x.L+=l
        for j in (0,1): s.m.purse[a][p.t[j]]-=w[j]; p.held[j]+=w[j]
        if not ks: s.m.stakes.append(x)
        return k
    def take(s,k,l):
        if not s.K(k) or not 1<=l<=s.m.stakes[k].L: return -1
        take(s.m,s.m.stakes[k],l); return len(s.m.stakes)
    def pay(s,k):
        if not s.K(k): return -1
        x=s.m.stakes[k]; settle(x); p=s.m.pools[x.pool]; d=x.debt
        for j in (0,1): p.held[j]-=d[j]; s.m.purse[x.person][p.t[j]]+=d[j]
        x.debt=[0,0]; return sum(d)
    def levy(s,i):
        if not s.P(i): return -1
        p=s.m.pools[i]; d=p.house; p.house=[0,0]
        for j in (0,1): p.held[j]-=d[j]; s.m.purse[0][p.t[j]]+=d[j]
        return sum(d)
    def in_(s,a,i,side,am,end):
        if not(s.W(a) and s.P(i) and side in (0,1) and 0<=end<=40): return -1
        p=s.m.pools[i]
        if not 1<=am<=s.m.purse[a][p.t[side]]: return -1
        q=swap(s.m,i,side,am,end,'in'); s.m.purse[a][p.t[side]]-=q.inn; s.m.purse[a][p.t[1-side]]+=q.out
        assert q.inn==am-q.left
        return q.out
    def out(s,a,i,side,am):
        if not(s.W(a) and s.P(i) and side in (0,1) and 1<=am<=9999999): return -1
        c=deepcopy(s.m); q=swap(c,i,side,am,END[side],'out')
        if q.left: return -2
        t=s.m.pools[i].t
        if q.inn>s.m.purse[a][t[side]]: return -3
        c.purse[a][t[side]]-=q.inn; c.purse[a][t[1-side]]+=q.out
        s.m=c; return q.inn
    def passes(s,n):
        if s.m is None or not 1<=n<=9999 or s.m.time+n>9999999: return -1
        s.m.time+=n
        for p in s.m.pools: p.zs+= [p.zone]*n
        return s.m.time
    def mean(s,i,n):
        if not s.P(i) or n<1: return -1
        p=s.m.pools[i]
        if s.m.time-n<p.marks[0]: return -2
        return sum(p.zs[s.m.time-n:])//n
    def quoteIn(s,i,side,am,end,w):
        if not(s.P(i) and side in (0,1) and 1<=am<=9999999 and 0<=end<=40 and 0<=w<=4): return -1
        c=deepcopy(s.m); q=swap(c,i,side,am,end,'in'); return [q.out,q.left,q.fees,c.pools[i].zone,q.crossed][w]
    def quoteOut(s,i,side,am,w):
        if not(s.P(i) and side in (0,1) and 1<=am<=9999999 and 0<=w<=3): return -1
        c=deepcopy(s.m); q=swap(c,i,side,am,END[side],'out')
        if q.left: return -2
        return [q.inn,q.fees,c.pools[i].zone,q.crossed][w]
    def round(s,i,side,am):
        if not(s.P(i) and side in (0,1) and 1<=am<=9999999): return -1
        c=deepcopy(s.m); q=swap(c,i,side,am,END[side],'in')
        if q.out==0: return 0
        return swap(c,i,1-side,q.out,END[1-side],'in').out
    def least(s,i,side,z):
        if not(s.P(i) and side in (0,1) and 0<=z<=39): return -1
        def ok(am):
            c=deepcopy(s.m); swap(c,i,side,am,END[side],'in'); y=c.pools[i].zone
            return y<=z if side==0 else y>=z
        if not ok(9999999): return -2
        lo,hi=0,9999999
        while hi-lo>1:
            mid=(lo+hi)//2
            if ok(mid): hi=mid
            else: lo=mid
        for k in range(max(1,hi-5),hi): assert not ok(k)
        return hi
    def rows(s,m,fr,to,lens):
        for L in lens:
            for row in permutations(range(len(m.pools)),L):
                t=fr; seen=[fr]; good=True
                for j,i in enumerate(row):
                    p=m.pools[i]
                    if t not in p.t: good=False;break
                    t=p.t[1] if p.t[0]==t else p.t[0]
                    if j<L-1 and (t in seen or t==to): good=False;break
                    seen.append(t)
                if good and t==to: yield row
    def runrow(s,m,fr,row,am):
        t=fr
        for i in row:
            p=m.pools[i]; side=0 if p.t[0]==t else 1
            am=swap(m,i,side,am,END[side],'in').out
            if am==0: return 0
            t=p.t[1-side]
        return am
    def best(s,m,fr,to,am):
        c=[]
        for row in s.rows(m,fr,to,(1,2,3)):
            o=s.runrow(deepcopy(m),fr,row,am)
            if o>0: c.append((-o,len(row),row))
        return min(c) if c else None
    def route(s,fr,to,am,w):
        if not(s.T(fr) and s.T(to) and fr!=to and 1<=am<=9999999 and 0<=w<=4): return -1
        b=s.best(s.m,fr,to,am)
        if not b: return -2
        return ([-b[0],b[1]]+list(b[2])+[-2,-2])[w]
    def parts(s,fr,to,am,w):
        if not(s.T(fr) and s.T(to) and fr!=to and 1<=am<=9999999 and 0<=w<=1): return -1
        c=deepcopy(s.m); tot=0; rs=[]
        for k in range(1,11):
            x=am*k//10-am*(k-1)//10
            if x==0: continue
            b=s.best(c,fr,to,x)
            if not b: return -2
            tot+=s.runrow(c,fr,b[2],x); rs.append(b[2])
        return [tot,sum(r!=rs[0] for r in rs)][w]
    def ring(s,t,w):
        if not(s.T(t) and 0<=w<=5): return -1
        c=[]
        for am in (1,10,100,1000,10000):
            for row in s.rows(s.m,t,t,(2,3)):
                o=s.runrow(deepcopy(s.m),t,row,am)
                if o>am: c.append((-(o-am),am,len(row),row))
        if not c: return -2
        b=min(c)
        return ([-b[0],b[1],b[2]]+list(b[3])+[-2])[w]
    def total(s,t):
        if not s.T(t): return -1
        return sum(x[t] for x in s.m.purse)+sum(p.held[j] for p in s.m.pools for j in (0,1) if p.t[j]==t)
    def count(s,w):
        if not 0<=w<=6: return -1
        if w==6: return len(s.tape)
        if s.m is None: return 0
        return [s.m.things,s.m.people,len(s.m.pools),len(s.m.stakes),s.m.time,s.m.crossed][w]
    # bundle
    def bundle(s,a):
        if not s.W(a): return -1
        b=s.tape; s.tape=b''
        try:
            r=Rd(b); r.n=0; st=s.steps(r,0)
            if r.cur() is not None: r.fault(r.i,0)
        except Fault as e: return -2-e.args[0]
        keep=deepcopy(s.m); s.done=0; s.got=0; s.locked=set(); s.who=a
        try: s.run(st)
        except Fail as e: s.m=keep; return -2-e.args[0]
        return s.done
    def much(s,r):
        c=r.cur()
        if c is not None and 48<=c<=57: return r.num(0,9999999)
        return r.word(('all','got'))[0]
    def steps(s,r,deep):
        out=[]
        while True:
            w,st=r.word(('in','out','add','drop','least','lend','times')); r.n+=1
            if r.n>40: r.fault(st,2)
            if w in('in','out'): x=[w,st,r.num(0,4),r.num(0,1),s.much(r)]
            elif w=='add': x=[w,st,r.num(0,4),r.num(0,40),r.num(0,40),r.num(1,99999)]
            elif w=='drop': x=[w,st,r.num(0,4),r.num(0,40),r.num(0,40)]
            elif w=='least': x=[w,st,r.num(0,4),r.num(0,9999999)]
            else:
                x=[w,st]+([r.num(0,4),r.num(0,1),s.much(r)] if w=='lend' else [r.num(0,20)])
                if r.cur()!=91: r.fault(r.i,0)
                if deep==4: r.fault(r.i,3)
                r.i+=1
                x.append(s.steps(r,deep+1))
                if r.cur()!=93: r.fault(r.i,0)
                r.i+=1
            out.append(x)
            if r.cur()!=59: return out
            r.i+=1
    def run(s,steps):
        for x in steps:
            w,st=x[0],x[1]; m=s.m
            def fail(k): raise Fail(1+8*st+k)
            if s.done==100: fail(6)
            s.done+=1
            if w in('in','out','add','drop','lend'):
                i=x[2]
                if not s.P(i) or i in s.locked: fail(5)
                p=m.pools[i]
            if w=='in':
                side=x[3]; am={'all':m.purse[s.who][p.t[side]],'got':s.got}.get(x[4],x[4])
                before=m.crossed
                o=s.in_(s.who,i,side,am,END[side])
                if o==-1: fail(5)
                s.got=o
            elif w=='out':
                side=x[3]; am={'all':p.held[1-side],'got':s.got}.get(x[4],x[4])
                if s.out(s.who,i,side,am)<0: fail(5)
                s.got=am
            elif w=='add':
                if s.add(s.who,i,x[3],x[4],0,x[5])==-1: fail(5)
            elif w=='drop':
                k=[y for y in m.stakes if (y.person,y.pool,y.low,y.high,y.auto)==(s.who,i,x[3],x[4],0)]
                if not k: fail(5)
                take(m,k[0],k[0].L)
            elif w=='least':
                if not s.T(x[2]) or m.purse[s.who][x[2]]<x[3]: fail(5)
            elif w=='times':
                for _ in range(x[2]): s.run(x[3])
            else:
                side=x[3]; am={'all':p.held[side],'got':s.got}.get(x[4],x[4])
                if am<1 or am>p.held[side] or liq(m,i,p.zone)==0: fail(5)
                p.held[side]-=am; m.purse[s.who][p.t[side]]+=am; s.locked.add(i)
                s.run(x[5])
                s.locked.discard(i); m=s.m; p=m.pools[i]
                fee=cd(am*p.fee,1000)
                if m.purse[s.who][p.t[side]]<am+fee: fail(7)
                m.purse[s.who][p.t[side]]-=am+fee; p.held[side]+=am+fee
                share(m,i,side,fee,[k for k in m.stakes if k.pool==i and k.low<=p.zone<k.high],liq(m,i,p.zone))
