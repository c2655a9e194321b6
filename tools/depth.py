# usage: python3 tools/depth.py
# How deep the calls of each public method go (LANGUAGE.md, rule 11: eight at most), the deepest way first.
import os, re, subprocess, tempfile

HOME = os.path.join(os.path.dirname(os.path.abspath(__file__)), '..')
classes = tempfile.mkdtemp()
subprocess.run(['javac', '-d', classes, HOME + '/src/main/java/TickPools.java'], check=True)
calls = {}
for file in os.listdir(classes):
    name = file[:-6]
    code = subprocess.run(['javap', '-p', '-c', classes + '/' + file], capture_output=True, text=True).stdout
    here = None
    for line in code.split('\n'):
        head = re.match(r'  \S.*?([\w$<>]+)\(.*\);$', line)
        if head:
            method = '<init>' if head.group(1) == name else head.group(1)
            here = name + '.' + method
            calls[here] = set()
        call = re.search(r'invoke.*// Method ([^:]+):', line)
        if call:
            called = call.group(1).replace('"', '')
            calls[here].add(called if '.' in called else name + '.' + called)


def deepest(method, above=()):
    assert method not in above, 'recursion: ' + method
    ways = [deepest(called, above + (method,)) for called in calls[method] if called in calls]
    return [method] + max(ways, key=len, default=[])


ways = [deepest(method) for method in calls if method.startswith('TickPools.')]
for way in sorted(ways, key=len, reverse=True):
    print(len(way), ' > '.join(method.replace('TickPools$', '') for method in way))
