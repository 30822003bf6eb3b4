import java.util.ArrayList;
import java.util.Arrays;
import java.util.HashSet;
import java.util.List;
import java.util.Random;
import java.util.Set;

// Random runs of calls against a second model of the document.
public final class ModelRuns {
    private static final int NONE = -6;

    static int real(AgingMen x, String name, int... a) {
        switch (name) {
            case "say": return x.say(a[0]);
            case "wipe": return x.wipe();
            case "fault": return x.fault(a[0]);
            case "lay": return x.lay();
            case "law": return x.law(a[0], a[1], a[2]);
            case "man": return x.man(a[0], a[1]);
            case "on": return x.on(a[0]);
            case "state": return x.state(a[0]);
            case "judge": return x.judge(a[0]);
            case "play": return x.play();
            case "moves": return x.moves(a[0]);
            case "reach": return x.reach(a[0]);
            case "youth": return x.youth(a[0], a[1]);
            case "stands": return x.stands();
            case "solve": return x.solve(a[0]);
            case "keys": return x.keys(a[0], a[1]);
            case "even": return x.even(a[0]);
            case "book": return x.book();
            case "booked": return x.booked(a[0], a[1]);
            case "next": return x.next(a[0]);
            case "drawn": return x.drawn(a[0], a[1]);
            case "mirror": return x.mirror(a[0]);
            case "like": return x.like();
            case "image": return x.image(a[0]);
            case "restore": return x.restore(a[0]);
            default: return x.told(a[0]);
        }
    }

    static final class Run {
        final AgingMen x = new AgingMen();
        final Model model = new Model();
        final Random random;
        final List<String> done = new ArrayList<>();
        boolean wrong = false;

        Run(long seed) {
            random = new Random(seed);
        }

        int pick(int bound) {
            return random.nextInt(bound);
        }

        // Mostly a number that is as told, now and then one beside it, seldom an odd one.
        int near(int low, int high) {
            int[] odd = {Integer.MIN_VALUE, Integer.MAX_VALUE, -7, 1000, low - 1, high + 1};
            return pick(12) == 0 ? odd[pick(odd.length)] : low + pick(high - low + 1);
        }

        void call(String name, int... a) {
            if (wrong || done.size() >= 512) {
                return;
            }
            int want = model.call(name, a);
            int got = real(x, name, a);
            done.add(name + Arrays.toString(a) + " -> " + got);
            if (got != want) {
                wrong = true;
                System.out.println(String.join("\n", done) + "\ndue is " + want);
            }
        }

        void write(String text) {
            call("wipe");
            for (int i = 0; i < text.length(); i++) {
                call("say", text.charAt(i));
            }
        }

        String boardText(int young) {
            List<Integer> men = new ArrayList<>(List.of(0, 3));
            for (int man : new int[] {1, 2, 4, 5}) {
                if (pick(2) == 0) {
                    men.add(pick(men.size() + 1), man);
                }
            }
            Set<String> cells = new HashSet<>();
            StringBuilder out = new StringBuilder();
            for (int man : men) {
                String cell = "";
                do {
                    cell = "" + (char) ('a' + pick(5)) + (char) ('1' + pick(5));
                } while (!cells.add(cell));
                out.append(man).append(cell).append(young + pick(10 - young));
            }
            return out + (pick(2) == 0 ? "!" : "");
        }

        String spoiled(String text) {
            if (text.isEmpty() || pick(6) != 0) {
                return text;
            }
            int at = pick(text.length());
            String signs = "abcdef0123456789!zA";
            return text.substring(0, at) + (pick(2) == 0 ? "" : "" + signs.charAt(pick(signs.length())))
                + text.substring(at + pick(2));
        }

        String gameText() {
            StringBuilder out = new StringBuilder();
            Model.Board b = model.board;
            int length = pick(6) == 0 ? 12 : pick(4);
            for (int i = 0; i < length; i++) {
                List<int[]> may = model.may(b);
                if (may.isEmpty()) {
                    break;
                }
                int[] move = may.get(pick(3) == 0 ? 0 : pick(may.size()));
                int told = model.told(b, move);
                if (pick(20) == 0) {
                    told = told / 100 * 100 + pick(25);
                }
                out.append(cell(told / 100)).append(cell(told % 100));
                b = model.go(b, move[0], move[1]);
            }
            return out.toString();
        }

        String cell(int cell) {
            return "" + (char) ('a' + cell % 5) + (char) ('1' + cell / 5);
        }

        void newLaw() {
            int[] ages = {pick(10), pick(10), pick(10)};
            if (pick(8) != 0) {
                Arrays.sort(ages);
                ages[2] = Math.max(ages[2], pick(10));
            }
            call("law", pick(20) == 0 ? near(0, 9) : ages[0], ages[1], pick(20) == 0 ? near(0, 9) : ages[2]);
        }

        void ask() {
            switch (pick(16)) {
                case 0: call("man", near(0, 5), near(0, 2)); break;
                case 1: call("on", near(0, 24)); break;
                case 2: call("state", near(0, 1)); break;
                case 3: call("fault", near(0, 1)); break;
                case 4: call("judge", near(0, 1)); break;
                case 5: call("moves", near(-1, 10)); break;
                case 6: call("reach", near(0, 1)); break;
                case 7: call("youth", near(0, 1), near(0, 1)); break;
                case 8: call("keys", near(1, 2), near(-1, 5)); break;
                case 9: call("booked", near(0, 7), pick(3) == 0 ? near(0, 1) : near(10, 21)); break;
                case 10: call("next", near(0, 4)); break;
                case 11: call("drawn", near(0, 9999), near(0, 1)); break;
                case 12: call("like"); break;
                case 13: call("told", near(0, 25)); break;
                case 14: call("solve", pick(20) == 0 ? near(0, 2) : pick(3)); break;
                default: call("stands"); break;
            }
        }

        void change() {
            switch (pick(13)) {
                case 0: newLaw(); break;
                case 1: case 2: write(spoiled(boardText(pick(4) == 0 ? 4 : 6))); call("lay"); break;
                case 3: write(spoiled(gameText())); call("judge", 0); call("judge", 1); call("play"); break;
                case 4: case 5: case 6: write(spoiled(gameText())); call("book"); break;
                case 7: write(gameText()); break;
                case 8: call("mirror", near(1, 3)); break;
                case 9: call("image", near(0, 1)); break;
                case 10: call("restore", near(0, 1)); break;
                case 11: call(pick(2) == 0 ? "play" : "book"); break;
                default: call("say", near(33, 126)); break;
            }
        }

        void likeRound() {
            write(boardText(6));
            call("lay");
            StringBuilder text = new StringBuilder();
            for (int man = 0; man < 6; man++) {
                int cell = model.cellOf(man);
                if (cell != NONE) {
                    text.append(man).append(cell(cell)).append(model.board.age[man]);
                }
            }
            call("mirror", 1 + pick(3));
            write(text + (model.board.turn == 1 ? "!" : ""));
            call("like");
        }

        void deepRound() {
            write(boardText(pick(3) == 0 ? 5 : 6));
            call("lay");
            call("stands");
            for (int what = 0; what < 3; what++) {
                call("solve", what);
            }
            for (int n = 1; n < 3; n++) {
                call("keys", n, -1);
                call("keys", n, 0);
                call("keys", n, near(0, 12));
            }
        }
    }

    private static boolean passes(long seed) {
        Run run = new Run(seed);
        if (seed % 2 == 0) {
            run.newLaw();
        }
        for (int i = 0; i < 60 && !run.wrong; i++) {
            int kind = run.pick(20);
            if (kind == 0) {
                run.likeRound();
            } else if (kind < 4) {
                run.deepRound();
            } else if (kind < 10) {
                run.change();
            } else {
                run.ask();
            }
        }
        if (seed % 8 == 0 && !run.wrong) {
            run.write(run.boardText(6));
            run.call("lay");
            run.call("even", run.near(0, 5));
            run.call("even", 0);
            run.call("stands");
        }
        return !run.wrong;
    }

    public static void main(String[] args) {
        int runs = args.length > 0 ? Integer.parseInt(args[0]) : 120;
        for (long seed = 0; seed < runs; seed++) {
            if (!passes(seed)) {
                System.out.println("run " + seed + " went wrong");
                System.exit(1);
            }
        }
        System.out.println("all " + runs + " runs are as the model tells");
    }
}
