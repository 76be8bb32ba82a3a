import java.util.ArrayList;
import java.util.List;
import java.util.Random;

/**
 * PRICE, LACK, POINT and RAY of small cases by their very words: all ways to bring, all rates that
 * hold, all sets of sites are gone through. The seeds are fixed.
 */
public final class RatesTest {
    private static final Due due = new Due();

    private final int plants;
    private final int sites;
    private final int[] stock;
    private final int[] need;
    private final int[][] toll;
    private final SplitProgram x = new SplitProgram();
    private int plan;
    private int least;

    private RatesTest(Random random) {
        plants = 1 + random.nextInt(3);
        sites = 1 + random.nextInt(3);
        stock = new int[plants];
        need = new int[sites];
        toll = new int[plants][sites];
        for (int p = 0; p < plants; p++) {
            int size = 1 + random.nextInt(4);
            int units = random.nextInt(3);
            x.plant(0, size, 3);
            stock[p] = units * size;
            plan |= units << 2 * p;
        }
        x.scene(1);
        for (int s = 0; s < sites; s++) {
            x.site();
            need[s] = random.nextInt(4);
            x.need(0, s, need[s]);
            for (int p = 0; p < plants; p++) {
                toll[p][s] = random.nextInt(4) == 0 ? -1 : random.nextInt(5);
                x.road(p, s, toll[p][s]);
            }
        }
    }

    public static void main(String[] args) {
        Random random = new Random(7);
        for (int i = 0; i < 1500; i++) {
            due.part("case " + i);
            new RatesTest(random).check();
        }
        due.close();
    }

    private void check() {
        least = Integer.MAX_VALUE;
        bring(0, 0, 0, stock.clone(), need.clone());
        int[] lacks = new int[1 << sites];
        int worst = 0;
        for (int set = 0; set < lacks.length; set++) {
            lacks[set] = lackOf(set);
            worst = Math.max(worst, lacks[set]);
        }
        due.is("lack", x.lack(0, plan), worst);
        due.is("it can be just without lack", least == Integer.MAX_VALUE ? 1 : 0, worst > 0 ? 1 : 0);
        due.is("price", x.price(0, plan), worst > 0 ? -1 : least);
        if (worst > 0) {
            checkRay(lacks, worst);
        } else {
            checkPoint();
        }
    }

    private void bring(int p, int s, int cost, int[] left, int[] rest) {
        if (p == plants) {
            for (int r : rest) {
                if (r > 0) {
                    return;
                }
            }
            least = Math.min(least, cost);
            return;
        }
        int nextSite = s + 1 < sites ? s + 1 : 0;
        int nextPlant = s + 1 < sites ? p : p + 1;
        int most = toll[p][s] < 0 ? 0 : Math.min(left[p], rest[s]);
        for (int n = 0; n <= most; n++) {
            left[p] -= n;
            rest[s] -= n;
            bring(nextPlant, nextSite, cost + n * toll[p][s], left, rest);
            left[p] += n;
            rest[s] += n;
        }
    }

    private boolean near(int p, int set) {
        for (int s = 0; s < sites; s++) {
            if ((set >> s & 1) == 1 && toll[p][s] >= 0) {
                return true;
            }
        }
        return false;
    }

    private int lackOf(int set) {
        int sum = 0;
        for (int s = 0; s < sites; s++) {
            sum += (set >> s & 1) * need[s];
        }
        for (int p = 0; p < plants; p++) {
            sum -= near(p, set) ? stock[p] : 0;
        }
        return sum;
    }

    private void checkRay(int[] lacks, int worst) {
        int found = 0;
        for (int set = 0; set < lacks.length; set++) {
            boolean inAll = lacks[set] == worst;
            for (int other = 0; other < lacks.length && inAll; other++) {
                inAll = lacks[other] != worst || (set & ~other) == 0;
            }
            if (inAll) {
                found++;
                for (int s = 0; s < sites; s++) {
                    due.is("v of " + s, x.rate(0, plan, 4 + s), set >> s & 1);
                }
                for (int p = 0; p < plants; p++) {
                    due.is("u of " + p, x.rate(0, plan, p), near(p, set) ? 1 : 0);
                }
            }
        }
        due.is("sets that are in all others", found, 1);
    }

    /** For given u the greatest v that hold are the best, so going through all u is enough. */
    private void checkPoint() {
        List<int[]> fit = new ArrayList<>();
        int high = 16;
        for (int n = 0; n < Math.pow(high, plants); n++) {
            int[] u = new int[plants];
            for (int p = 0, rest = n; p < plants; p++, rest /= high) {
                u[p] = rest % high;
            }
            if (worth(u) == least) {
                fit.add(u);
            }
            if (worth(u) > least) {
                due.is("rates bound the price", worth(u), least);
            }
        }
        int[] lowest = new int[plants];
        boolean one = false;
        for (int p = 0; p < plants; p++) {
            int at = p;
            lowest[p] = fit.stream().mapToInt(u -> u[at]).min().orElse(-1);
            due.is("u of " + p, x.rate(0, plan, p), lowest[p]);
        }
        for (int[] u : fit) {
            one |= java.util.Arrays.equals(u, lowest);
        }
        due.is("there are such", one ? 1 : 0, 1);
        for (int s = 0; s < sites; s++) {
            due.is("v of " + s, x.rate(0, plan, 4 + s), rateOf(lowest, s));
        }
    }

    private int rateOf(int[] u, int s) {
        int low = Integer.MAX_VALUE;
        for (int p = 0; p < plants; p++) {
            low = toll[p][s] < 0 ? low : Math.min(low, u[p] + toll[p][s]);
        }
        return low == Integer.MAX_VALUE ? 0 : low;
    }

    private int worth(int[] u) {
        int sum = 0;
        for (int s = 0; s < sites; s++) {
            sum += need[s] * rateOf(u, s);
        }
        for (int p = 0; p < plants; p++) {
            sum -= stock[p] * u[p];
        }
        return sum;
    }
}
