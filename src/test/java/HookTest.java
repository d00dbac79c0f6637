import java.util.ArrayList;
import java.util.List;

/** Promises 33 to 35: acts and traces against classes that really stand under one another. */
public final class HookTest {
    private static final int BAD = GloveRegret.BAD;
    private static final Check check = new Check();
    private static final List<Integer> ran = new ArrayList<>();

    public static void main(String[] args) {
        body();
        actsByHand();
        actsOfAll();
        noSuchAct();
        check.end();
    }

    private static void body() {
        GloveRegret x = new GloveRegret();
        check.due("body(-1)", x.body(-1), BAD);
        check.due("body(8)", x.body(8), BAD);
        for (int n = 0; n < 50; n++) {
            check.due("body " + n, x.body(n % 8), n);
        }
        check.due("body 50", x.body(0), GloveRegret.FULL);
        check.due("BAD ahead of FULL", x.body(8), BAD);
        check.due("count(4)", x.count(4), 50);
    }

    private static void actsByHand() {
        GloveRegret x = new GloveRegret();
        x.body(0);
        x.body(5);
        // ENVOY 1 reads 4: 41, then 30: less (4 + 1 + 1) * 2; regrets 1: 40: (1 ^ 1) * 3; tells: (-12 - 0) ^ 5
        check.due("ENVOY reads", x.act(1, 1, 4), -12);
        check.due("ENVOY tells", x.act(1, 3, 4), -12 ^ 5);
        int[] due = {60, 2, 41, 30, 10, 1, 40, 11};
        check.due("count(5)", x.count(5), due.length);
        for (int i = 0; i < due.length; i++) {
            check.due("trace(" + i + ")", x.trace(i), due[i]);
        }
        check.due("trace(8)", x.trace(8), BAD);
        check.due("trace(-1)", x.trace(-1), BAD);
        check.due("HOOK hangs", x.act(0, 0, 4), 4);
        check.due("count(5)", x.count(5), 1);
        check.due("trace(0)", x.trace(0), 1);
        check.due("trace(1)", x.trace(1), BAD);
    }

    private static void actsOfAll() {
        GloveRegret x = new GloveRegret();
        int[] xs = {0, 1, -1, 7, 1000, Integer.MAX_VALUE, Integer.MIN_VALUE, -2000000011};
        for (int n = 0; n < 50; n++) {
            int kind = (n * 5 + n / 8) % 8;
            x.body(kind);
            Hook hook = make(kind, n);
            for (int act = 0; act < 4; act++) {
                for (int v : xs) {
                    ran.clear();
                    int want = act == 0 ? hook.hangs(v) : act == 1 ? hook.reads(v)
                        : act == 2 ? hook.regrets(v) : hook.tells(v);
                    String call = "KIND " + kind + " act(" + n + ", " + act + ", " + v + ")";
                    check.due(call, x.act(n, act, v), want);
                    check.due(call + ": count(5)", x.count(5), ran.size());
                    for (int i = 0; i < 24; i++) {
                        check.due(call + ": trace(" + i + ")", x.trace(i), i < ran.size() ? ran.get(i) : BAD);
                    }
                }
            }
        }
    }

    private static void noSuchAct() {
        GloveRegret x = new GloveRegret();
        x.body(7);
        int[][] none = {{-1, 0}, {1, 0}, {0, -1}, {0, 4}};
        for (int[] call : none) {
            x.act(0, 3, 3);
            check.due("no such", x.act(call[0], call[1], 3), 0);
            check.due("no such: count(5)", x.count(5), 0);
            check.due("no such: trace(0)", x.trace(0), BAD);
        }
    }

    private static Hook make(int kind, int n) {
        switch (kind) {
            case 0: return new Hook(n);
            case 1: return new Tray(n);
            case 2: return new Sock(n);
            case 3: return new Wit(n);
            case 4: return new Stair(n);
            case 5: return new Envoy(n);
            case 6: return new Snow(n);
            default: return new Grey(n);
        }
    }

    private interface Hangs {
        int number();

        default int hangs(int x) {
            ran.add(1);
            return x + number();
        }
    }

    private interface Tells {
        int reads(int x);

        int regrets(int x);

        default int tells(int x) {
            ran.add(2);
            return reads(x) - regrets(1);
        }
    }

    private static class Hook implements Hangs, Tells {
        private final int n;

        Hook(int n) {
            this.n = n;
        }

        public int number() {
            return n;
        }

        public int reads(int x) {
            ran.add(10);
            return hangs(x) * 2;
        }

        public int regrets(int x) {
            ran.add(11);
            return x ^ n;
        }
    }

    private static class Tray extends Hook {
        Tray(int n) {
            super(n);
        }

        @Override public int hangs(int x) {
            ran.add(20);
            return super.hangs(x) + 3;
        }
    }

    private static class Sock extends Hook {
        Sock(int n) {
            super(n);
        }

        @Override public int reads(int x) {
            ran.add(30);
            return -super.reads(x);
        }
    }

    private static class Wit extends Sock {
        Wit(int n) {
            super(n);
        }

        @Override public int regrets(int x) {
            ran.add(40);
            return super.regrets(x) * 3;
        }

        @Override public int reads(int x) {
            ran.add(41);
            return super.reads(x + 1);
        }
    }

    private static class Stair extends Tray {
        Stair(int n) {
            super(n);
        }

        @Override public int regrets(int x) {
            ran.add(50);
            return super.regrets(x) - hangs(2);
        }
    }

    private static final class Envoy extends Wit {
        Envoy(int n) {
            super(n);
        }

        @Override public int tells(int x) {
            ran.add(60);
            return super.tells(x) ^ 5;
        }
    }

    private static final class Snow extends Hook {
        Snow(int n) {
            super(n);
        }

        @Override public int hangs(int x) {
            ran.add(70);
            return super.hangs(x) * 2;
        }
    }

    private static final class Grey extends Stair {
        Grey(int n) {
            super(n);
        }

        @Override public int reads(int x) {
            ran.add(80);
            return super.reads(x) + regrets(2);
        }

        @Override public int tells(int x) {
            ran.add(81);
            return super.tells(x) - 1;
        }
    }
}
