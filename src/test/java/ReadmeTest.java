import java.io.IOException;
import java.nio.file.Files;
import java.nio.file.Path;
import java.util.List;

/** The run of calls that README.md shows answers what README.md says. It is run from the project's own folder. */
public final class ReadmeTest {
    private static List<String> lines = List.of();
    private static int reached = 0;

    public static void main(String[] args) throws IOException {
        lines = Files.readAllLines(Path.of("README.md"));
        EnginesAsleep house = new EnginesAsleep();
        int tank = house.engine(10, 1, 0, false);
        shown("int tank = house.engine(10, 1, 0, false);", tank);
        int goods = house.engine(20, 3, 60, false);
        shown("int goods = house.engine(20, 3, 60, false);", goods);
        shown("house.light(tank);", house.light(tank));
        shown("house.move(goods, 3);", house.move(goods, 3));
        shown("house.drag(goods, tank, 3);", house.drag(goods, tank, 3));
        shown("house.move(tank, 3);", house.move(tank, 3));
        shown("house.free(goods);", house.free(goods));
        shown("house.light(goods);", house.light(goods));
        shown("house.pass(60);", house.pass(60));
        shown("house.free(goods);", house.free(goods));
        shown("house.count(10);", house.count(10));
        shown("house.row(0);", house.row(0));
        shown("house.sign(0x6C3C3230);", house.sign(0x6C3C3230));
        shown("house.rule();", house.rule());
        shown("house.takes(0, tank);", house.takes(0, tank));
        shown("house.takes(0, goods);", house.takes(0, goods));
        noneLeft();
        Check.end();
    }

    private static void shown(String call, int got) {
        said(call, Integer.toString(got));
    }

    private static void shown(String call, boolean got) {
        said(call, Boolean.toString(got));
    }

    /** The next call in README.md is this one, and the words behind it begin with the answer. */
    private static void said(String call, String got) {
        reached = nextCall(reached);
        String line = reached < lines.size() ? lines.get(reached) : "";
        reached++;
        Check.due("README.md shows " + call, line.startsWith(call + " "), true);
        String answer = line.substring(Math.max(0, line.indexOf("//"))).replace("//", "").trim().split(":")[0];
        Check.due(call + " is " + got + ", in README.md " + answer, answer.equals(got), true);
    }

    private static void noneLeft() {
        int more = nextCall(reached);
        Check.due("calls in README.md that are not asked here, from line " + (more + 1), more < lines.size(), false);
    }

    private static int nextCall(int from) {
        int i = from;
        while (i < lines.size() && !(lines.get(i).contains("house.") && lines.get(i).contains("//"))) {
            i++;
        }
        return i;
    }
}
