/** Makes a call of NetMender by its name, so that runs of calls can be made up and compared. */
final class Calls {
    /**
     * Every call, with a letter for what each of its arguments is: k knot, K kind, m kind and number, h hand,
     * t thread, w worn, e ells, a man, s speed, n days from 1, N days from 0, D day, S sheet, b bits,
     * z size of a sheet, i place in a sheet or hole, c place in a way, x any number, 0 .. 9 from 0 to that, A from 0 to 11,
     * q and Q from -1 to 2 and to 6, L any long.
     */
    static final String[] FACE = {
        "tie kmh", "knotIs k6", "as kK", "threadIs t5", "cut t", "wear tw", "twine e", "speed as",
        "feed Ls", "text 1", "untell 1", "run Sh", "odd 1", "cuts q", "way c", "hole Q", "open", "minutes Q",
        "days n", "draws n", "seed x", "then Nt5", "goes n1", "mendAhead n1", "hands hD", "swimsOut 1",
        "voice k3x", "body 6", "sheet Sbz", "put Six", "move SiSiz", "cutAll S", "judge S", "image", "restore",
        "tell x", "check", "count A", "told 6"
    };

    private Calls() {
    }

    static long make(NetMender x, String call, long... v) {
        int[] a = new int[5];
        for (int i = 0; i < v.length; i++) {
            a[i] = (int) v[i];
        }
        switch (call) {
            case "tie": return x.tie(a[0], a[1], a[2]);
            case "knotIs": return x.knotIs(a[0], a[1]);
            case "as": return x.as(a[0], a[1]);
            case "threadIs": return x.threadIs(a[0], a[1]);
            case "cut": return x.cut(a[0]);
            case "wear": return x.wear(a[0], a[1]);
            case "twine": return x.twine(a[0]);
            case "speed": return x.speed(a[0], a[1]);
            case "feed": return x.feed(v[0], a[1]);
            case "text": return x.text(a[0]);
            case "untell": return x.untell(a[0]);
            case "run": return x.run(a[0], a[1]);
            case "odd": return x.odd(a[0]);
            case "cuts": return x.cuts(a[0]);
            case "way": return x.way(a[0]);
            case "hole": return x.hole(a[0]);
            case "open": return x.open();
            case "minutes": return x.minutes(a[0]);
            case "days": return x.days(a[0]);
            case "draws": return x.draws(a[0]);
            case "seed": return x.seed(a[0]);
            case "then": return x.then(a[0], a[1], a[2]);
            case "goes": return x.goes(a[0], a[1]);
            case "mendAhead": return x.mendAhead(a[0], a[1]);
            case "hands": return x.hands(a[0], a[1]);
            case "swimsOut": return x.swimsOut(a[0]);
            case "voice": return x.voice(a[0], a[1], a[2]);
            case "body": return x.body(a[0]);
            case "sheet": return x.sheet(a[0], a[1], a[2]);
            case "put": return x.put(a[0], a[1], a[2]);
            case "move": return x.move(a[0], a[1], a[2], a[3], a[4]);
            case "cutAll": return x.cutAll(a[0]);
            case "judge": return x.judge(a[0]);
            case "image": return x.image();
            case "restore": return x.restore();
            case "tell": return x.tell(a[0]);
            case "check": return x.check();
            case "count": return x.count(a[0]);
            case "told": return x.told(a[0]);
            default: throw new IllegalArgumentException(call);
        }
    }
}
