# usage: python3 tools/mutate.py TEST,TEST,.. [FROM-TO]
# Makes small faults in the class (of the lines FROM to TO), one at a time, and prints those that none of the tests finds.
# Many of them are none: a bound of a guard that is never met, a row that is longer than it need be.
import os, re, shutil, subprocess, sys, tempfile
from concurrent.futures import ThreadPoolExecutor

HOME = os.path.join(os.path.dirname(os.path.abspath(__file__)), '..')
SOURCE = 'src/main/java/TickPools.java'
QUICK = ['-XX:TieredStopAtLevel=1', '-XX:+UseSerialGC']
os.chdir(HOME)
tests = sys.argv[1].split(',')
low, high = [int(n) for n in sys.argv[2].split('-')] if len(sys.argv) > 2 else (1, 10 ** 6)
lines = open(SOURCE).read().split('\n')
OTHER = {'<': '<=', '>': '>=', '<=': '<', '>=': '>', '==': '!=', '!=': '==', '&&': '||', '||': '&&',
         '+': '-', '-': '+', '*': '+', '/': '*', 'true': 'false', 'false': 'true'}


def mutants_of(number, line):
    code = re.sub(r'//.*', '', line)
    found = []
    for sign in re.finditer(r'(?<![<>=!+\-*/&|])(<=|>=|==|!=|<|>)(?![<>=])|&&|\|\||(?<= )[+\-*/](?= )|\b(true|false)\b', code):
        found.append(line[:sign.start()] + OTHER[sign.group()] + line[sign.end():])
    for digits in re.finditer(r'(?<![\w.])(\d+)(L?)(?![\w.])', code):
        for n in (int(digits.group(1)) + 1, int(digits.group(1)) - 1):
            if n >= 0:
                found.append(line[:digits.start()] + str(n) + digits.group(2) + line[digits.end():])
    if re.match(r'\s*[\w.\[\] +\-]+(\(.*\)|\s*[+\-]?=\s.*|\+\+|--);$', code) \
            and not re.match(r'\s*(return|int|long|boolean|private|final|static|Pool|Stake|Step)\b', code):
        found.append(';')
    return [(number, new) for new in found]


def survives(mutant):
    number, new = mutant
    place = tempfile.mkdtemp()
    try:
        with open(place + '/TickPools.java', 'w') as out:
            out.write('\n'.join(lines[:number] + [new] + lines[number + 1:]))
        if subprocess.run(['javac', '-d', place, place + '/TickPools.java'], capture_output=True).returncode:
            return False
        for test in tests:
            run = ['java'] + QUICK + ['-cp', place + ':' + classes, test]
            if subprocess.run(run, capture_output=True, timeout=120).returncode:
                return False
        return True
    except subprocess.TimeoutExpired:
        return False
    finally:
        shutil.rmtree(place)


classes = tempfile.mkdtemp()
subprocess.run('javac -d %s %s src/test/java/*.java' % (classes, SOURCE), shell=True, check=True)
for file in os.listdir(classes):
    if file.startswith('TickPools.') or file.startswith('TickPools$'):
        os.remove(classes + '/' + file)
mutants = []
for number, line in enumerate(lines):
    if low <= number + 1 <= high and not line.strip().startswith(('/**', '*', '//')):
        mutants += mutants_of(number, line)
left = 0
with ThreadPoolExecutor(os.cpu_count()) as pool:
    for (number, new), alive in zip(mutants, pool.map(survives, mutants)):
        if alive:
            left += 1
            print(number + 1, '|', lines[number].strip(), '=>', new.strip())
print(len(mutants), 'faults,', left, 'not found')
shutil.rmtree(classes)
