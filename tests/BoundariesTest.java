import java.io.IOException;
import java.nio.file.Path;

/** Every sentence of the document that names a bound, asked for at that bound; none of them may be left out. */
public final class BoundariesTest {
    public static void main(String[] args) throws IOException {
        Says says = new Says(Path.of("../shared/DOC.md"));
        BoundsOfJumpers.ask(says);
        BoundsOfLaw.ask(says);
        BoundsOfDrops.ask(says);
        BoundsOfSeen.ask(says);
        BoundsOfDeeds.ask(says);
        BoundsOfShelves.ask(says);
        BoundsOfRefusals.ask(says);
        says.end();
    }
}
