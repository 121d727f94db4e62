import java.util.List;

/** The worlds that edges are asked in are what they say, and all that is seen in them is as the Model has it. */
public final class EdgeWorldsTest {
    private static final Due due = new Due();

    public static void main(String[] args) {
        counts(World.NOTHING, 0, 0, 0, 0, 0, 0, 0, 0, 0, 0, 0, LandLines.NONE);
        counts(World.SOME, 4, 4, 3, 3, 3, 2, 3, 3, 20, 2, 16, 5);
        counts(World.FULL, 8, 12, 12, 8, 7, 3, 8, 99, 510, 4, 240, 40);
        counts(World.EIGHT_OPEN, 8, 12, 12, 8, 8, 3, 8, 99, 500, 4, 0, LandLines.NONE);
        for (World world : World.values()) {
            likeModel(world);
        }
        due.close();
    }

    private static void counts(World world, int... want) {
        LandLines x = world.make();
        for (int what = 0; what < want.length; what++) {
            due.is(world + ": count(" + what + ")", x.count(what), want[what]);
        }
    }

    private static void likeModel(World world) {
        List<Integer> want = Seen.of(() -> {
            Model m = new Model();
            world.fill(m);
            return m;
        });
        String unlike = Seen.firstUnlike(want, Seen.of(world::make), "");
        due.is(world + ": " + unlike, unlike.length(), 0);
    }
}
