import java.util.ArrayList;
import java.util.Comparator;
import java.util.List;
import java.util.Random;

/** Promises 9 to 26 against a second, slow way of working them out, on trays and laws by draws. */
public final class ModelTest {
    private static final int BAD = GloveRegret.BAD, NOT = GloveRegret.NOT, STATE = GloveRegret.STATE;
    private static final Check check = new Check();

    public static void main(String[] args) {
        for (int seed = 0; seed < 400; seed++) {
            Random random = new Random(seed);
            GloveRegret x = new GloveRegret();
            Model model = fill(x, random);
            askAll(x, model, random, "seed " + seed + " ");
            deeds(x, model, random, "seed " + seed + " ");
            askAll(x, model, random, "seed " + seed + ", behind deeds, ");
        }
        check.end();
    }

    private static final class Guest {
        int number, regret, fades, looks, hand;
        boolean gone;
    }

    private static final class Slip {
        final int by, at, weight;

        Slip(int by, int at, int weight) {
            this.by = by;
            this.at = at;
            this.weight = weight;
        }
    }

    private static final class Model {
        final List<Guest> guests = new ArrayList<>();
        final List<Slip> slips = new ArrayList<>();
        int minute = 0;
        String law = null;

        Model copy() {
            Model other = new Model();
            for (Guest g : guests) {
                Guest h = new Guest();
                h.number = g.number;
                h.regret = g.regret;
                h.fades = g.fades;
                h.looks = g.looks;
                h.hand = g.hand;
                h.gone = g.gone;
                other.guests.add(h);
            }
            other.slips.addAll(slips);
            other.minute = minute;
            other.law = law;
            return other;
        }

        Model behind(int n) {
            Model other = copy();
            for (int i = 0; i < n; i++) {
                other.pass();
            }
            return other;
        }

        void pass() {
            for (Guest g : guests) {
                if (!g.gone) {
                    int more = 0;
                    for (Slip s : slips) {
                        more += s.by == g.number && s.at == minute ? s.weight : 0;
                    }
                    g.regret = Math.max(0, Math.min(99, g.regret + more - g.fades));
                }
            }
            minute = minute == 199 ? 199 : minute + 1;
        }

        int read(Guest g) {
            int worth = g.regret + 2 * g.looks - (g.hand == 0 ? 5 : 0);
            if (law != null) {
                SecondReader reader = new SecondReader(law, g.regret, g.looks, g.hand, minute, left().size(), g.number);
                reader.fault();
                worth = reader.worth();
            }
            return Math.max(0, Math.min(99, worth));
        }

        List<Guest> left() {
            List<Guest> left = new ArrayList<>(guests);
            left.removeIf(g -> g.gone);
            return left;
        }

        List<Guest> sorted() {
            List<Guest> left = left();
            left.sort(Comparator.comparingInt((Guest g) -> -read(g)).thenComparingInt(g -> g.number));
            return left;
        }

        /** Numbers as they go, and behind them REGRET of all as they went. */
        List<Integer> going(int held) {
            Model other = copy();
            List<Integer> goers = new ArrayList<>();
            int regret = 0;
            while (!other.left().isEmpty()) {
                List<Guest> sorted = other.sorted();
                Guest next = sorted.get(0).number == held && sorted.size() > 1 ? sorted.get(1) : sorted.get(0);
                goers.add(next.number);
                regret += next.regret;
                next.gone = true;
                other.pass();
            }
            goers.add(regret);
            return goers;
        }

        int place(int guest) {
            List<Integer> goers = going(9);
            int place = goers.subList(0, goers.size() - 1).indexOf(guest);
            return place < 0 ? 9 : place;
        }

        int judged(int[] stair) {
            List<Integer> goers = going(9);
            for (int i = 0; i < Math.min(9, stair.length); i++) {
                if (i >= goers.size() - 1 || stair[i] != 9 && stair[i] != goers.get(i)) {
                    return i;
                }
            }
            return NOT;
        }
    }

    private static Model fill(GloveRegret x, Random random) {
        Model model = new Model();
        int guests = random.nextInt(10);
        for (int i = 0; i < guests; i++) {
            Guest g = new Guest();
            g.number = i;
            g.regret = random.nextInt(4) == 0 ? random.nextInt(100) : 10 + random.nextInt(12);
            g.fades = random.nextInt(random.nextBoolean() ? 3 : 10);
            g.looks = random.nextInt(10);
            g.hand = random.nextInt(2);
            g.gone = random.nextInt(5) == 0;
            model.guests.add(g);
            x.guest(g.hand, 5 + random.nextInt(5));
            x.mend(i, 0, g.regret);
            x.mend(i, 1, g.fades);
            x.mend(i, 2, g.looks);
            x.mend(i, 5, g.gone ? 1 : 0);
        }
        model.minute = random.nextInt(3) == 0 ? 185 + random.nextInt(15) : random.nextInt(30);
        x.mend(0, 8, model.minute);
        for (int i = random.nextInt(13); i > 0 && guests > 0; i--) {
            Slip s = new Slip(random.nextInt(guests), Math.min(199, model.minute + random.nextInt(12)),
                1 + random.nextInt(30));
            model.slips.add(s);
            x.slip(s.by, s.at, s.weight);
        }
        if (random.nextInt(3) > 0) {
            StringBuilder text = new StringBuilder();
            SecondReader.writeText(text, random);
            if (text.length() <= 120 && Check.law(x, text.toString()) == 1) {
                model.law = text.toString();
            }
        }
        return model;
    }

    private static void askAll(GloveRegret x, Model model, Random random, String run) {
        int guests = model.guests.size();
        int[] ns = {0, random.nextInt(12), random.nextInt(61)};
        for (int n : ns) {
            Model then = model.behind(n);
            List<Guest> sorted = then.sorted();
            check.due(run + "first(" + n + ")", x.first(n), sorted.isEmpty() ? NOT : sorted.get(0).number);
            List<Integer> goers = then.going(9);
            int waits = 0;
            for (int k = 0; k < 10; k++) {
                check.due(run + "goesAs", x.goesAs(n, k), k < goers.size() - 1 ? goers.get(k) : NOT);
                waits += k < goers.size() - 1 ? n + k : 0;
            }
            check.due(run + "waits", x.waits(n), waits);
            for (Guest g : then.guests) {
                int i = g.number;
                check.due(run + "READ", x.later(n, i, 0), then.read(g));
                check.due(run + "REGRET", x.later(n, i, 1), g.regret);
                check.due(run + "place", x.later(n, i, 2), g.gone ? NOT : sorted.indexOf(g));
                check.due(run + "goesWhen", x.goesWhen(n, i), g.gone ? NOT : n + then.place(i));
            }
        }
        heldOver(x, model, run);
        if (guests > 0) {
            askOne(x, model, random, run, random.nextInt(guests));
            turns(x, model, random, run);
        }
        upside(x, model, run);
        drawn(x, model, random, run);
    }

    private static void heldOver(GloveRegret x, Model model, String run) {
        int who = 9;
        List<Integer> goers = model.going(9);
        int least = goers.get(goers.size() - 1);
        for (Guest g : model.left()) {
            goers = model.going(g.number);
            if (goers.get(goers.size() - 1) < least) {
                least = goers.get(goers.size() - 1);
                who = g.number;
            }
        }
        check.due(run + "held(0)", x.held(0), who);
        check.due(run + "held(1)", x.held(1), least);
    }

    private static void askOne(GloveRegret x, Model model, Random random, String run, int guest) {
        boolean gone = model.guests.get(guest).gone;
        int k = random.nextInt(9);
        int sorry = NOT;
        for (int looks = 9; looks >= 0 && !gone; looks--) {
            Model other = model.copy();
            other.guests.get(guest).looks = looks;
            sorry = other.place(guest) <= k ? looks : sorry;
        }
        check.due(run + "sorry", x.sorry(guest, k), sorry);
        int weight = 1 + random.nextInt(30);
        int n = random.nextInt(31);
        int when = 0;
        int soonest = 99;
        int most = -1;
        int peak = 0;
        for (int ahead = 0; ahead <= 60; ahead++) {
            if (ahead <= 30) {
                Model other = model.copy();
                other.slips.add(new Slip(guest, model.minute + ahead, weight));
                int place = other.behind(n).place(guest);
                when = place < soonest ? ahead : when;
                soonest = Math.min(place, soonest);
            }
            int regret = model.behind(ahead).guests.get(guest).regret;
            peak = regret > most ? ahead : peak;
            most = Math.max(most, regret);
        }
        check.due(run + "slipWhen 0", x.slipWhen(guest, 100 * weight + n, 0), gone ? STATE : when);
        check.due(run + "slipWhen 1", x.slipWhen(guest, 100 * weight + n, 1), gone ? STATE : soonest);
        check.due(run + "peak 0", x.peak(guest, 0), peak);
        check.due(run + "peak 1", x.peak(guest, 1), most);
        stair(x, model, random, run, guest);
    }

    private static void stair(GloveRegret x, Model model, Random random, String run, int guest) {
        List<Integer> goers = model.going(9);
        int[] stair = new int[random.nextInt(goers.size() + 1)];
        for (int i = 0; i < stair.length; i++) {
            boolean isTrue = i < goers.size() - 1 && random.nextInt(4) > 0;
            stair[i] = random.nextInt(3) == 0 ? 9 : isTrue ? goers.get(i) : random.nextInt(10);
        }
        Check.bytes(x, 2, stair);
        check.due(run + "judge", x.judge(2), model.judged(stair));
        int[] most = {9, 9, 99};
        for (int tried = 0; tried < 3; tried++) {
            int fitting = 0;
            int least = NOT;
            for (int v = 0; v <= most[tried]; v++) {
                Model other = model.copy();
                Guest g = other.guests.get(guest);
                g.looks = tried == 0 ? v : g.looks;
                g.fades = tried == 1 ? v : g.fades;
                g.regret = tried == 2 ? v : g.regret;
                if (other.judged(stair) == NOT) {
                    fitting++;
                    least = least == NOT ? v : least;
                }
            }
            check.due(run + "fits " + 2 * tried, x.fits(2, guest, 2 * tried), fitting);
            check.due(run + "fits " + (2 * tried + 1), x.fits(2, guest, 2 * tried + 1), least);
        }
    }

    private static void turns(GloveRegret x, Model model, Random random, String run) {
        List<Guest> left = model.left();
        if (left.size() < 2) {
            return;
        }
        int a = left.remove(random.nextInt(left.size())).number;
        int b = left.remove(random.nextInt(left.size())).number;
        int n = 1 + random.nextInt(random.nextInt(8) == 0 ? 5 : 3);
        int[] ways = {2, 0, 1};
        int best = Integer.MIN_VALUE;
        int first = -1;
        for (int way : ways) {
            int ahead = value(turned(model, a, way), a, b, n - 1, false);
            if (ahead > best) {
                best = ahead;
                first = way;
            }
        }
        check.due(run + "byTurns 0", x.byTurns(10 * a + b, n, 0), best);
        check.due(run + "byTurns 1", x.byTurns(10 * a + b, n, 1), first);
    }

    private static Model turned(Model model, int guest, int way) {
        Model other = model.copy();
        Guest g = other.guests.get(guest);
        g.looks = way == 0 ? Math.min(9, g.looks + 2) : way == 1 ? Math.max(0, g.looks - 2) : g.looks;
        return other;
    }

    private static int value(Model model, int a, int b, int times, boolean isOnes) {
        if (times == 0) {
            return model.place(b) - model.place(a);
        }
        int best = isOnes ? -99 : 99;
        for (int way = 0; way < 3; way++) {
            int ahead = value(turned(model, isOnes ? a : b, way), a, b, times - 1, !isOnes);
            best = isOnes ? Math.max(best, ahead) : Math.min(best, ahead);
        }
        return best;
    }

    private static void upside(GloveRegret x, Model model, String run) {
        List<Guest> sorted = model.sorted();
        int upside = 0;
        int alike = 0;
        for (int i = 0; i < sorted.size(); i++) {
            for (int j = i + 1; j < sorted.size(); j++) {
                upside += sorted.get(j).regret > sorted.get(i).regret ? 1 : 0;
                alike += model.read(sorted.get(i)) == model.read(sorted.get(j)) ? 1 : 0;
            }
        }
        check.due(run + "upside(0)", x.upside(0), upside);
        check.due(run + "upside(1)", x.upside(1), alike);
    }

    private static void drawn(GloveRegret x, Model model, Random random, String run) {
        int seed = random.nextInt();
        int n = 1 + random.nextInt(6);
        int m = 1 + random.nextInt(30);
        int wine = random.nextInt(13);
        int z = seed;
        int all = 0;
        int[] first = new int[9];
        for (int supper = 0; supper < n; supper++) {
            Model other = model.copy();
            for (int minute = 0; minute < m; minute++) {
                z = z * 1103515245 + 12345;
                if ((z >>> 24) % 12 < wine && !other.guests.isEmpty()) {
                    Guest g = other.guests.get((z >>> 8) % other.guests.size());
                    g.regret = g.gone ? g.regret : Math.min(99, g.regret + 1 + (z >>> 16) % 20);
                }
                other.pass();
            }
            for (Guest g : other.guests) {
                all += g.regret;
            }
            if (!other.left().isEmpty()) {
                first[other.sorted().get(0).number]++;
            }
        }
        int told = 10000 * n + 100 * m + wine;
        check.due(run + "drawn of all", x.drawn(seed, told, -1), all);
        for (int g = 0; g < 9; g++) {
            check.due(run + "drawn of one", x.drawn(seed, told, g), g < model.guests.size() ? first[g] : BAD);
        }
    }

    private static void deeds(GloveRegret x, Model model, Random random, String run) {
        for (int i = random.nextInt(6); i > 0; i--) {
            int deed = random.nextInt(3);
            if (deed == 0) {
                model.pass();
                check.due(run + "minute()", x.minute(), model.minute);
            } else if (deed == 1) {
                List<Guest> sorted = model.sorted();
                int who = sorted.isEmpty() ? NOT : sorted.get(0).number;
                check.due(run + "goes()", x.goes(), who);
                if (who >= 0) {
                    sorted.get(0).gone = true;
                    model.pass();
                }
            } else if (!model.left().isEmpty() && model.slips.size() < 12) {
                int who = model.left().get(0).number;
                check.due(run + "slips()", x.slips(who, 7), model.slips.size());
                model.slips.add(new Slip(who, model.minute, 7));
            }
        }
        for (Guest g : model.guests) {
            check.due(run + "REGRET in deed", x.of(g.number, 0), g.regret);
            check.due(run + "GONE in deed", x.of(g.number, 5), g.gone ? 1 : 0);
        }
    }
}
