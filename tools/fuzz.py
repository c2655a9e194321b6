# usage: python3 tools/fuzz.py SEED RUNS [counts | golden]
# Random runs of calls, answered by model.py and by the class; prints where they differ.
# counts: also how often each kind of answer came. golden: prints the runs in the form of src/test/runs/runs.txt.
import os,random,subprocess,sys,tempfile
HERE=os.path.dirname(os.path.abspath(__file__))
sys.path.insert(0,HERE)
from model import *
seed0=int(sys.argv[1]); N=int(sys.argv[2])
rnd=random.Random(seed0)
def ri(a,b): return rnd.randint(a,b)
def bl(): return rnd.choice(['',' ','  '] if rnd.random()<.1 else [' '])
def amt():
    k=ri(0,7)
    return ri(0 if rnd.random()<.05 else 1,10**k) if k<7 else ri(1,9999999)
def gen_market():
    T=ri(2,5);Pe=ri(1,4);cl=['market %d %d'%(T,Pe)]
    mode=rnd.random()
    for _ in range(rnd.choice([1,1,2,3,4,5,5,5])):
        a,b=rnd.sample(range(T),2)
        k=rnd.random()
        if k<.6: aa=ri(500,2000);bb=ri(500,2000)
        elif k<.8: aa=bb=1
        else: aa=ri(1,9999);bb=ri(1,9999)
        cl.append('pool %d %d %d %d %d %d %d'%(a,b,rnd.choice([0,1,3,10,30,99,ri(0,99)]),rnd.choice([0,100,20,ri(0,100)]),rnd.choice([1,1,1,2,5,10,ri(1,10)]),aa,bb))
    for p in range(Pe):
        for t in range(T):
            if len(cl)<30 and rnd.random()<.9: cl.append('purse %d %d %d'%(p,t,rnd.choice([9999999,9999999,amt(),0,100000,1000000])))
    s=';'.join(cl)
    while len(s)>400: cl.pop(); s=';'.join(cl)
    return s
def mutate(s):
    s=list(s)
    for _ in range(ri(1,2)):
        if not s: break
        i=ri(0,len(s)-1); k=rnd.random()
        if k<.3: s[i]=chr(rnd.choice([ri(0,255),ri(32,126)]))
        elif k<.6: del s[i]
        elif k<.75: s.insert(i,rnd.choice(' ;[]019zai'))
        elif k<.85: s=s[:i]
        elif k<.92:
            j=ri(0,len(s)-1); s[i:i]=s[min(i,j):max(i,j)]
        else: s.append(rnd.choice(' ;]x0'))
    return ''.join(s)[:400]
def much(): 
    k=rnd.random()
    return 'all' if k<.1 else 'got' if k<.3 else str(amt())
def gen_steps(o,d,budget):
    out=[]
    for _ in range(rnd.choice([1,1,2,3])):
        if budget[0]<=0: break
        budget[0]-=1
        P=len(o.m.pools) if o.m else 1
        p=ri(0,P-1) if rnd.random()<.97 and P else ri(0,4)
        k=rnd.random()
        if k<.3: out.append('in %d %d %s'%(p,ri(0,1),much()))
        elif k<.45: out.append('out %d %d %s'%(p,ri(0,1),much()))
        elif k<.6:
            sp=o.m.pools[p].sp if o.m and p<P else 1
            lo=ri(0,40//sp-1)*sp;hi=ri(lo//sp+1,40//sp)*sp
            out.append('add %d %d %d %d'%(p,lo,hi,ri(1,99999)))
        elif k<.7:
            ks=[x for x in o.m.stakes if x.auto==0]
            if ks and rnd.random()<.9:
                x=rnd.choice(ks); out.append('drop %d %d %d'%(x.pool,x.low,x.high))
            else: out.append('drop %d %d %d'%(p,ri(0,40),ri(0,40)))
        elif k<.8: out.append('least %d %d'%(ri(0,o.m.things-1 if rnd.random()<.9 else 4),rnd.choice([0,amt()])))
        elif d<(5 if rnd.random()<.02 else 4):
            inner=gen_steps(o,d+1,budget) or 'least 0 0'
            if k<.9: out.append('lend %d %d %s [%s]'%(p,ri(0,1),rnd.choice(['all',str(ri(1,1000)),str(ri(1,100000)),'got']),inner))
            else: out.append('times %d [%s]'%(rnd.choice([0,1,2,3,20,ri(0,20)]),inner))
    return rnd.choice([';',' ; ','; '] ).join(out)
def gen_loans(o,th,d):
    # steps by one who has little: what was lent is swapped on, so that some can't go back
    out=[]
    for _ in range(ri(1,3)):
        ways=[(i,p.t.index(th)) for i,p in enumerate(o.m.pools) if th in p.t]
        if not ways: return 'least 0 0'
        i,s=rnd.choice(ways); k=rnd.random()
        if d==0 or k<.2 and d<4: out.append('lend %d %d %s[%s]'%(i,s,rnd.choice(['all','got',str(ri(1,99)),str(ri(1,9999))]),gen_loans(o,th,d+1)))
        elif k<.3 and d<4: out.append('times %d[%s]'%(ri(0,12),gen_loans(o,th,d+1)))
        elif k<.4: out.append('out %d %d %s'%(i,1-s,rnd.choice(['got',str(ri(1,500))])))
        else: out.append('in %d %d %s'%(i,s,rnd.choice(['all','all','got','1','10']))); th=o.m.pools[i].t[1-s]
    return ';'.join(out)
def at_limit():
    k=ri(0,4)
    if k==0: return ';'.join(['in0 0 1']*ri(36,43))+rnd.choice(['',';','x','; in0','9'])
    if k==1: n=ri(2,6); return 'times1['*n+'least 0 0'+']'*ri(n-1,n+1)
    if k==2: return 'times%d[times%d[least 0 0;least 0 0]%s]'%(ri(0,21),ri(0,6),rnd.choice(['',';in 0 0 1','x']))
    if k==3: return 'lend 0 0 1['*ri(0,1)+'times1['*3+'lend 1 0 1['*ri(0,1)+'least 0 0'+']'*ri(3,5)
    return 'times 20[in 0 0 1;in 0 1 1];times 20[least 0 0]'+';least 0 0'*ri(30,45)
def market_at_limit(): return 'market 2 1'+rnd.choice([';purse0 0 1'*ri(27,33),';pool 0 1 0 0 1 1 1'*ri(4,7)])+rnd.choice(['',';','x',' ',';market'])
log=[]
def rec(o,name,*a):
    v=getattr(o,'in_' if name=='in' else name)(*a)
    log.append((name,a,v)); return v
def feedtext(o,s):
    b=s.encode('latin1')[:400]; base=len(o.tape)
    for i in range(0,len(b),20):
        c=b[i:i+20].ljust(20,b'\0')
        ns=[int.from_bytes(c[j:j+4],'big') for j in range(0,20,4)]
        rec(o,'feed',*[n-(1<<32) if n>=1<<31 else n for n in ns])
    rec(o,'end',min(base+len(b),400))
def side(): return ri(0,1)
def dump(o):
    m=o.m
    for t in range(5):
        for p in range(4): rec(o,'purse',p,t)
        rec(o,'total',t)
    for i in range(len(m.pools) if m else 1):
        for w in range(-1,15): rec(o,'pool',i,w)
    for k in range(len(m.stakes)+1 if m else 1):
        for w in range(-1,12): rec(o,'stake',k,w)
    for w in range(-1,8): rec(o,'count',w)
def act(o):
    m=o.m; P=len(m.pools) if m else 0
    bad=rnd.random()<.04
    p=rnd.choice([-1,P,P-1,0,ri(-5,9)]) if bad or P==0 else ri(0,P-1)
    pe=ri(-1,4) if bad or not m else ri(0,m.people-1)
    k=rnd.random()
    bad2=rnd.random()<.04
    sd=ri(-1,2) if bad2 else side()
    bad3=rnd.random()<.04
    a=rnd.choice([0,-1,9999999,10000000,2**31-1,-2**31]) if bad3 else amt()
    e=rnd.choice([0,40,0 if sd==0 else 40,0 if sd==0 else 40,ri(0,40),ri(-1,41)])
    if k<.18:
        sp=m.pools[p].sp if m and 0<=p<P else 1
        if rnd.random()<.5 and m and 0<=p<P:
            z=m.pools[p].zone; lo=max(0,z-ri(-3,8))//sp*sp; hi=min(40,(z+ri(-2,8)))//sp*sp
        else: lo=ri(0,40)//sp*sp; hi=ri(0,40)//sp*sp
        if lo>hi: lo,hi=hi,lo
        if bad2: lo=ri(-1,41);hi=ri(-1,41)
        rec(o,'add',pe,p,lo,hi,rnd.choice([0,0,1,2,ri(-1,3)]),rnd.choice([0,1,99999,100000,ri(1,10),ri(1,1000),ri(1,99999),ri(1,99999)]))
    elif k<.21: 
        if m and m.stakes:
            i=ri(0,len(m.stakes)); L=m.stakes[i].L if i<len(m.stakes) else 5
            rec(o,'take',i,rnd.choice([L,L,ri(1,L),L+1,0,1]))
        else: rec(o,'take',ri(-1,2),1)
    elif k<.24: rec(o,'pay',ri(-1,len(m.stakes)) if m else 0)
    elif k<.26: rec(o,'levy',p)
    elif k<.42: rec(o,'in',pe,p,sd,a,e)
    elif k<.5: rec(o,'out',pe,p,sd,a)
    elif k<.56: rec(o,'passes',rnd.choice([1,2,3,10,ri(1,100),ri(-1,10001) if rnd.random()<.1 else 5]))
    elif k<.60: rec(o,'mean',p,rnd.choice([1,2,3,ri(-1,100),ri(1,20),m.time if m else 1]))
    elif k<.64: 
        for w in range(-1,6): rec(o,'quoteIn',p,sd,a,e,w)
    elif k<.68:
        for w in range(-1,5): rec(o,'quoteOut',p,sd,a,w)
    elif k<.71: rec(o,'round',p,sd,a)
    elif k<.74: rec(o,'least',p,sd,ri(-1,40))
    elif k<.78:
        f,t=ri(0,m.things-1) if m else 0,ri(0,m.things-1) if m else 1
        if bad: f=ri(-1,5);t=ri(-1,5)
        for w in range(-1,6): rec(o,'route',f,t,a,w)
    elif k<.81:
        f,t=ri(0,m.things-1) if m else 0,ri(0,m.things-1) if m else 1
        for w in range(-1,3): rec(o,'parts',f,t,a,w)
    elif k<.84:
        t=ri(-1,5)
        for w in range(-1,7): rec(o,'ring',t,w)
    elif k<.85: rec(o,'depth',p,ri(-1,40))
    elif k<.855: rec(o,'root',ri(-2,42))
    elif k<.97 and m:
        k=rnd.random()
        s=gen_steps(o,0,[12]) if k<.6 else at_limit() if k<.75 else gen_loans(o,ri(0,m.things-1),0)
        if rnd.random()<.15: s=mutate(s)
        if o.tape: rec(o,'end',0)
        feedtext(o,s); rec(o,'bundle',pe)
    elif k<.99:
        s=market_at_limit() if rnd.random()<.4 else mutate(gen_market())
        if o.tape: rec(o,'end',0)
        feedtext(o,s); rec(o,'market')
    else: dump(o)
stat={}
for run in range(N):
    log.append(('new',(),0)); o=O()
    if rnd.random()<.03:
        for _ in range(5): act(o)
        dump(o)
        if o.tape: rec(o,'end',0)
    feedtext(o,gen_market()); rec(o,'market')
    for _ in range(rnd.choice([0,3,6,10])):
        if o.m and o.m.pools:
            p=ri(0,len(o.m.pools)-1); pl=o.m.pools[p]; sp=pl.sp; z=pl.zone
            lo=max(0,z-ri(0,8))//sp*sp; hi=min(40,z+sp+ri(0,8))//sp*sp
            rec(o,'add',ri(0,o.m.people-1),p,lo,hi,ri(0,2),rnd.choice([ri(1,99999),99999,99999]))
    for _ in range(40): act(o)
    if o.m: dump(o)
mode=sys.argv[3] if len(sys.argv)>3 else ''
if mode=='golden':
    calls=0
    for n,a,v in log:
        if n=='new': calls=0; print('new')
        elif calls<512: calls+=1; print(' '.join([n]+[str(x) for x in a]),'=',v)
    sys.exit(0)
inp='\n'.join(' '.join([n]+[str(x) for x in a]) for n,a,v in log)+'\n'
classes=tempfile.mkdtemp()
subprocess.run(['javac','-d',classes,HERE+'/../src/main/java/TickPools.java',HERE+'/Drive.java'],check=True)
r=subprocess.run(['java','-cp',classes,'Drive'],input=inp,capture_output=True,text=True)
if r.returncode: print(r.stderr[:2000])
outs=r.stdout.split()
badn=0
for i,((n,a,v),g) in enumerate(zip(log,outs)):
    stat.setdefault(n,{}); key='neg%d'%v if -3<=v<0 else ('fault%d'%((-v-3)%8) if v<-3 else ('0' if v==0 else '+')); stat[n][key]=stat[n].get(key,0)+1
    if int(g)!=v:
        badn+=1
        if badn<=5: print('BAD',i,n,a,'oracle',v,'java',g)
if len(outs)!=len(log): print('len',len(outs),len(log))
print(seed0,'calls',len(log),'bad',badn)
if mode=='counts':
    for n in stat: print(n,stat[n])
